/** Promises 27 to 35: lists, what wheels have drawn what is told, lots. */
public final class ToldTest {
    private static final Due DUE = new Due("ToldTest");

    public static void main(String[] args) {
        fits();
        fitsOfOthers();
        refusedFits();
        kinds();
        refusedKinds();
        drawnBy();
        judge();
        lots();
        refusedLots();
        list();
        putAndLook();
        lays();
        DUE.close();
    }

    private static void fits() {
        WheelOnWheel x = new WheelOnWheel();
        long all = (1L << 24) - 2;
        Due.list(x, 0);
        DUE.is(27, "no number told", x.fits(0, 0, 0), all);
        Due.list(x, 0, 23);
        DUE.is(27, "one number told", x.fits(0, 5, 9), all);
        Due.list(x, 0, 3, 10, 17, 0);
        DUE.is(27, "INNER", x.fits(0, 0, 0), 1L << 7);
        DUE.is(27, "OUTER", x.fits(0, 1, 0), 1L << 7);
        DUE.is(27, "BACKWARD", x.fits(0, 3, 0), 1L << 17);
        DUE.is(27, "DOUBLE by no SIZE", x.fits(0, 5, 0), 0);
        DUE.is(27, "SLIPPING by 3: on 10", x.fits(0, 2, 3), 0);
        DUE.is(27, "SLIPPING by 9: on none", x.fits(0, 2, 9), 1L << 7);
        Due.list(x, 0, 3, 10, 18);
        DUE.is(27, "no one step", x.fits(0, 0, 0), 0);
        Due.list(x, 0, 5, 5);
        DUE.is(27, "a tooth twice", x.fits(0, 0, 0), 0);
        DUE.is(27, "a tooth twice, DOUBLE", x.fits(0, 5, 0), 1L << 12);
        x.ring(60);
        Due.list(x, 0);
        DUE.is(27, "all of 60", x.fits(0, 0, 0), (1L << 60) - 2);
        Due.list(x, 0, 1, 0);
        DUE.is(27, "SIZE 59", x.fits(0, 0, 0), 1L << 59);
    }

    private static void fitsOfOthers() {
        WheelOnWheel x = new WheelOnWheel();
        Due.list(x, 1, 10, 2);
        DUE.is(27, "DOUBLE by two SIZES", x.fits(1, 5, 0), 1L << 4 | 1L << 16);
        Due.list(x, 1, 0, 9, 16);
        DUE.is(27, "SLIPPING: 2 more on 0", x.fits(1, 2, 2), 1L << 7);
        x.wears(9);
        x.wears(10);
        Due.list(x, 1, 1, 11, 20);
        DUE.is(27, "CHOOSY: by 8, 9, 10, but 9 from 11", x.fits(1, 4, 0), 1L << 9);
        Due.list(x, 1, 1, 11);
        DUE.is(27, "CHOOSY: 8, 9, 10", x.fits(1, 4, 0), 1L << 8 | 1L << 9 | 1L << 10);
        DUE.is(27, "the numbers stay", x.look(1, 1), 11);
    }

    private static void refusedFits() {
        WheelOnWheel x = new WheelOnWheel();
        Due.list(x, 1, 24);
        DUE.is(27, "LIST 3 ahead of KIND", x.fits(3, 6, -1), Due.refusal(-1));
        DUE.is(27, "LIST -1", x.fits(-1, 0, 0), Due.refusal(-1));
        DUE.is(27, "KIND 6 ahead of FIGURE", x.fits(0, 6, -1), Due.refusal(-2));
        DUE.is(27, "KIND -1", x.fits(0, -1, 0), Due.refusal(-2));
        DUE.is(27, "FIGURE -1 ahead of missing", x.fits(0, 0, -1), Due.refusal(-4));
        DUE.is(27, "FIGURE 10 ahead of missing", x.fits(0, 0, 10), Due.refusal(-6));
        DUE.is(27, "LIST 0 is missing", x.fits(0, 0, 0), 4000000000000000011L);
        DUE.is(27, "24 is no tooth, though alone", x.fits(1, 0, 0), Due.refusal(-3));
        Due.list(x, 1, 1, 2, 3, -1);
        DUE.is(27, "-1 is no tooth", x.fits(1, 0, 0), Due.refusal(-3));
        int[] refused = {2, 2, 2, 1, 0, 1};
        for (int i = 0; i < refused.length; i++) {
            DUE.is(39, "count(" + (11 + i) + ")", x.count(11 + i), refused[i]);
        }
    }

    private static void kinds() {
        WheelOnWheel x = new WheelOnWheel();
        x.wheel(2, 7, 2, 5, 1);
        Due.list(x, 2);
        DUE.is(28, "all KINDS", x.kinds(2, 0, 0), 63);
        DUE.is(28, "all FIGURES", x.kinds(2, 0, 1), 1023);
        Due.list(x, 2, 0);
        DUE.is(28, "all KINDS by one", x.kinds(2, 0, 0), 63);
        Due.list(x, 2, 1, 8);
        DUE.is(28, "all that go up by 7", x.kinds(2, 0, 0), 1 | 2 | 4 | 16);
        DUE.is(28, "1 is no multiple", x.kinds(2, 0, 1), 1023);
        Due.list(x, 2, 0, 7);
        DUE.is(28, "those that don't slip on 0", x.kinds(2, 0, 0), 1 | 2);
        DUE.is(28, "FIGURE 0 alone", x.kinds(2, 0, 1), 1);
        Due.list(x, 2, 0, 16);
        DUE.is(28, "FIGURE 9", x.kinds(2, 0, 1), 1 << 9);
        Due.list(x, 2, 0, 9, 16);
        DUE.is(28, "those that slip on 0", x.kinds(2, 0, 0), 4 | 16);
        DUE.is(28, "FIGURE 2", x.kinds(2, 0, 1), 4);
        x.wears(16);
        DUE.is(28, "CHOOSY doesn't come there", x.kinds(2, 0, 0), 4);
        Due.list(x, 2, 3, 20);
        DUE.is(28, "BACKWARD", x.kinds(2, 0, 0), 8);
        DUE.is(28, "no FIGURE", x.kinds(2, 0, 1), 0);
        Due.list(x, 2, 3, 10, 3);
        DUE.is(28, "none", x.kinds(2, 0, 0), 0);
        x.change(0, 1, 12);
        Due.list(x, 2, 3, 3);
        DUE.is(28, "DOUBLE", x.kinds(2, 0, 0), 32);
        DUE.is(28, "the WHEEL is as it was", x.of(0, 0), 2);
        DUE.is(28, "FIGURE as it was", x.of(0, 2), 2);
    }

    private static void refusedKinds() {
        WheelOnWheel x = new WheelOnWheel();
        x.wheel(2, 8, 2, 5, 1);
        Due.list(x, 1, 24);
        DUE.is(28, "LIST 3", x.kinds(3, 0, 2), -1);
        DUE.is(28, "WHEEL 1", x.kinds(0, 1, 2), -1);
        DUE.is(28, "what 2 ahead of missing", x.kinds(0, 0, 2), -2);
        DUE.is(28, "what -1", x.kinds(1, 0, -1), -2);
        DUE.is(28, "missing", x.kinds(0, 0, 0), -11);
        DUE.is(28, "no tooth", x.kinds(1, 0, 0), -3);
        Due.list(x, 1, 1, -1);
        DUE.is(28, "-1 is no tooth", x.kinds(1, 0, 1), -3);
    }

    private static void drawnBy() {
        WheelOnWheel x = new WheelOnWheel();
        // By SIZE: 1: 24 and 0; 2: 12 and 0; 3: 8, 0; 5: 24 and 24 times 4; 7: 24, 24 times 6; 9: 8, 16; 10: 12, 48.
        DUE.is(29, "24, 0", x.drawnBy(24, 0), 1);
        DUE.is(29, "12, 0", x.drawnBy(12, 0), 2);
        DUE.is(29, "24, 96", x.drawnBy(24, 96), 5);
        DUE.is(29, "24, 144", x.drawnBy(24, 144), 7);
        DUE.is(29, "8, 16", x.drawnBy(8, 16), 9);
        DUE.is(29, "12, 48", x.drawnBy(12, 48), 10);
        DUE.is(29, "24, 240", x.drawnBy(24, 240), 11);
        DUE.is(29, "2, 0", x.drawnBy(2, 0), 12);
        DUE.is(29, "24, 95", x.drawnBy(24, 95), -9);
        DUE.is(29, "0, 0", x.drawnBy(0, 0), -9);
        DUE.is(29, "1, 0", x.drawnBy(1, 0), -9);
        DUE.is(29, "the greatest", x.drawnBy(Integer.MAX_VALUE, Integer.MAX_VALUE), -9);
        DUE.is(29, "-1, 0", x.drawnBy(-1, 0), -4);
        DUE.is(29, "0, -1", x.drawnBy(0, -1), -4);
        DUE.is(29, "59 teeth", Due.withRing(59).drawnBy(59, 59 * 28), 29);
        // On 60 teeth 60 by 30 is a line there and back.
        DUE.is(29, "60 teeth", Due.withRing(60).drawnBy(2, 0), 30);
        DUE.is(29, "60 teeth", Due.withRing(60).drawnBy(60, 60 * 28), 29);
        DUE.is(29, "3 teeth", Due.withRing(3).drawnBy(3, 0), 1);
    }

    private static void judge() {
        WheelOnWheel x = new WheelOnWheel();
        x.wheel(0, 6, 0, 2, 1);
        Due.list(x, 0);
        DUE.is(30, "none told", x.judge(0, 0), -9);
        Due.list(x, 0, 2, 8, 14, 20);
        DUE.is(30, "all told", x.judge(0, 0), -9);
        Due.list(x, 0, 2, 8, 14);
        DUE.is(30, "fewer told", x.judge(0, 0), -9);
        Due.list(x, 0, 2, 8, 14, 20, 2);
        DUE.is(30, "more than there are", x.judge(0, 0), 4);
        Due.list(x, 0, 2, 8, 15, 21);
        DUE.is(30, "otherwise", x.judge(0, 0), 2);
        Due.list(x, 0, 99);
        DUE.is(30, "no tooth is otherwise", x.judge(0, 0), 0);
        DUE.is(30, "LIST 3", x.judge(3, 0), -1);
        DUE.is(30, "WHEEL 1 ahead of missing", x.judge(1, 1), -1);
        DUE.is(30, "missing", x.judge(1, 0), -11);
        DUE.is(30, "missing isn't counted", x.count(11), 2);
    }

    private static void lots() {
        WheelOnWheel x = new WheelOnWheel();
        x.wheel(0, 8, 0, 0, 1);
        // z 0 goes to 1013904223 (WHEEL), to 1196435762: by 256 it is 4673577, by 4 1: two ARCS: 8, 16.
        DUE.is(31, "teeth of the first lot", x.lots(1, 0, 0), 2);
        DUE.is(31, "tooth 0 of the first lot", x.lots(1, 0, 1), 0);
        DUE.is(31, "all three teeth", x.lots(50, 0, 0), 3);
        DUE.is(31, "in thought alone", x.of(0, 4), 0);
        DUE.is(31, "no INK", x.count(4), 0);
        x.wheel(5, 12, 0, 0, 1);
        x.wheel(5, 12, 0, 5, 1);
        // Three WHEELS: which of them, and how many ARCS.
        for (int z = -3; z <= 3; z++) {
            DUE.is(31, "lots(9, " + z + ", 0)", x.lots(9, z, 0), lotsDue(9, z, 0));
            DUE.is(31, "lots(9, " + z + ", 1)", x.lots(9, z, 1), lotsDue(9, z, 1));
        }
        int[] seeds = {Integer.MIN_VALUE, Integer.MAX_VALUE, 123456789, -987654321};
        for (int z : seeds) {
            DUE.is(31, "lots(50, " + z + ", 0)", x.lots(50, z, 0), lotsDue(50, z, 0));
            DUE.is(31, "lots(50, " + z + ", 1)", x.lots(50, z, 1), lotsDue(50, z, 1));
        }
    }

    /** LOTS of the three WHEELS of lots(): INNER 8 from 0, one that stays at 0, one that stays at 5. */
    private static int lotsDue(int n, long seed, int what) {
        long z = seed;
        int inner = 0;
        int[] touches = new int[24];
        for (int i = 0; i < n; i++) {
            z = (z * 1664525L + 1013904223L) & 0xffffffffL;
            long wheel = ((z & 0x7fffffffL) >> 8) % 3;
            z = (z * 1664525L + 1013904223L) & 0xffffffffL;
            long arcs = ((z & 0x7fffffffL) >> 8) % 4 + 1;
            for (int k = 0; k < arcs; k++) {
                if (wheel == 0) {
                    inner = (inner + 8) % 24;
                }
                touches[wheel == 0 ? inner : wheel == 1 ? 0 : 5]++;
            }
        }
        int unlike = 0;
        for (int touch : touches) {
            unlike += touch > 0 ? 1 : 0;
        }
        return what == 0 ? unlike : touches[0];
    }

    private static void refusedLots() {
        WheelOnWheel x = new WheelOnWheel();
        DUE.is(31, "n 0 ahead of what", x.lots(0, 1, 2), -4);
        DUE.is(31, "n 51 ahead of what", x.lots(51, 1, 2), -6);
        DUE.is(31, "what 2 ahead of no WHEELS", x.lots(50, 1, 2), -2);
        DUE.is(31, "what -1", x.lots(1, 1, -1), -2);
        DUE.is(31, "no WHEELS", x.lots(1, 1, 0), -3);
    }

    private static void list() {
        WheelOnWheel x = new WheelOnWheel();
        DUE.is(32, "LIST 3 ahead of the size", x.list(3, 41), -1);
        DUE.is(32, "LIST -1", x.list(-1, 1), -1);
        DUE.is(32, "41 places", x.list(0, 41), -6);
        DUE.is(32, "-1 places", x.list(0, -1), -14);
        DUE.is(32, "LIST 0 is missing still", x.look(0, 0), Due.refusal(-11));
        DUE.is(32, "no places", x.list(0, 0), 1);
        DUE.is(32, "none is there", x.look(0, 0), Due.refusal(-13));
        DUE.is(32, "40 places", x.list(2, 40), 1);
        DUE.is(32, "the last is 0", x.look(2, 39), 0);
        x.put(2, 39, 7);
        x.put(2, 0, 7);
        DUE.is(32, "refused", x.list(2, -1), -14);
        DUE.is(32, "so it stays", x.look(2, 39), 7);
        DUE.is(32, "anew", x.list(2, 40), 1);
        DUE.is(32, "all 0", x.look(2, 39), 0);
        DUE.is(32, "all 0", x.look(2, 0), 0);
        DUE.is(32, "LIST 1 is missing", x.look(1, 0), Due.refusal(-11));
        int[] refused = {2, 0, 0, 0, 0, 1};
        for (int i = 0; i < refused.length; i++) {
            DUE.is(32, "count(" + (11 + i) + ")", x.count(11 + i), refused[i]);
        }
    }

    private static void putAndLook() {
        WheelOnWheel x = new WheelOnWheel();
        x.list(1, 3);
        DUE.is(33, "put(1, 2, least)", x.put(1, 2, Integer.MIN_VALUE), 1);
        DUE.is(33, "put(1, 0, greatest)", x.put(1, 0, Integer.MAX_VALUE), 1);
        DUE.is(34, "look(1, 2)", x.look(1, 2), Integer.MIN_VALUE);
        DUE.is(34, "look(1, 1)", x.look(1, 1), 0);
        DUE.is(34, "look(1, 0)", x.look(1, 0), Integer.MAX_VALUE);
        DUE.is(33, "LIST 3", x.put(3, -1, 0), -1);
        DUE.is(33, "LIST -1", x.put(-1, 0, 0), -1);
        DUE.is(33, "missing ahead of the place", x.put(0, -1, 0), -11);
        DUE.is(33, "place 3", x.put(1, 3, 0), -13);
        DUE.is(33, "place -1", x.put(1, -1, 0), -13);
        DUE.is(34, "LIST 3", x.look(3, -1), Due.refusal(-1));
        DUE.is(34, "LIST -1", x.look(-1, 0), Due.refusal(-1));
        DUE.is(34, "missing ahead of the place", x.look(0, -1), Due.refusal(-11));
        DUE.is(34, "place 3", x.look(1, 3), 4000000000000000013L);
        DUE.is(34, "place -1", x.look(1, -1), Due.refusal(-13));
        DUE.is(34, "count(11)", x.count(11), 4);
    }

    private static void lays() {
        WheelOnWheel x = new WheelOnWheel();
        x.wheel(0, 6, 0, 2, 1);
        x.list(0, 6);
        x.put(0, 0, 77);
        x.put(0, 5, 88);
        DUE.is(35, "lays(0, 1, 0)", x.lays(0, 1, 0), 4);
        int[] due = {77, 2, 8, 14, 20, 88};
        for (int i = 0; i < due.length; i++) {
            DUE.is(35, "look(0, " + i + ")", x.look(0, i), due[i]);
        }
        DUE.is(35, "as many as have a place", x.lays(0, 4, 0), 2);
        DUE.is(35, "look(0, 3)", x.look(0, 3), 14);
        DUE.is(35, "look(0, 4)", x.look(0, 4), 2);
        DUE.is(35, "look(0, 5)", x.look(0, 5), 8);
        DUE.is(35, "place 6", x.lays(0, 6, 0), -13);
        DUE.is(35, "place -1", x.lays(0, -1, 0), -13);
        DUE.is(35, "missing ahead of the place", x.lays(1, -1, 0), -11);
        DUE.is(35, "WHEEL 1 ahead of missing", x.lays(1, -1, 1), -1);
        DUE.is(35, "LIST 3", x.lays(3, 0, 0), -1);
        x.list(2, 0);
        DUE.is(35, "a LIST without places", x.lays(2, 0, 0), -13);
        DUE.is(35, "AT", x.of(0, 4), 2);
        DUE.is(35, "count(11)", x.count(11), 2);
    }
}
