/** Promises 36 to 39: what is undone, the image, what is counted. */
public final class ImageTest {
    private static final Due DUE = new Due("ImageTest");

    public static void main(String[] args) {
        undo();
        undoEightAtMost();
        whatLeavesNone();
        whatStaysUndoable();
        image();
        imageHoldsAll();
        count();
        DUE.close();
    }

    private static void undo() {
        WheelOnWheel x = new WheelOnWheel();
        DUE.is(36, "none", x.undo(), -3);
        x.wheel(0, 8, 0, 0, 1);
        x.wheel(0, 5, 0, 3, 1);
        x.roll(0, 2);
        x.wears(7);
        x.puts(0, 16);
        x.roll(1, 1);
        DUE.is(36, "count(6)", x.count(6), 4);
        DUE.is(36, "the roll", x.undo(), 3);
        DUE.is(36, "AT of 1", x.of(1, 4), 3);
        DUE.is(36, "ROLLED of 1", x.of(1, 5), 0);
        DUE.is(36, "INK", x.count(4), 2);
        DUE.is(36, "AT of 0", x.of(0, 4), 16);
        DUE.is(36, "puts, though all stayed as it was", x.undo(), 2);
        DUE.is(36, "AT of 0", x.of(0, 4), 16);
        DUE.is(36, "WORN", x.tooth(7, 0), 1);
        DUE.is(36, "wears", x.undo(), 1);
        DUE.is(36, "WORN", x.tooth(7, 0), 0);
        DUE.is(36, "ROLLED of 0", x.of(0, 5), 2);
        x.puts(0, 1);
        DUE.is(36, "puts", x.undo(), 1);
        DUE.is(36, "AT of 0", x.of(0, 4), 16);
        DUE.is(36, "the first roll", x.undo(), 0);
        DUE.is(36, "AT of 0", x.of(0, 4), 0);
        DUE.is(36, "ROLLED of 0", x.of(0, 5), 0);
        DUE.is(36, "INK", x.count(4), 0);
        DUE.is(36, "none", x.undo(), -3);
        DUE.is(36, "count(13)", x.count(13), 2);
    }

    private static void undoEightAtMost() {
        WheelOnWheel x = new WheelOnWheel();
        x.wheel(0, 1, 0, 0, 1);
        for (int i = 1; i <= 11; i++) {
            x.roll(0, 1);
            DUE.is(36, "count(6)", x.count(6), Math.min(i, 8));
        }
        for (int i = 7; i >= 0; i--) {
            DUE.is(36, "undo()", x.undo(), i);
            DUE.is(36, "AT", x.of(0, 4), i + 3);
            DUE.is(36, "INK", x.count(4), i + 3);
        }
        DUE.is(36, "older ones no more", x.undo(), -3);
        DUE.is(36, "AT", x.of(0, 4), 3);
    }

    private static WheelOnWheel withOneToUndo() {
        WheelOnWheel x = new WheelOnWheel();
        x.wheel(0, 1, 0, 0, 1);
        x.image();
        x.roll(0, 1);
        return x;
    }

    private static void whatLeavesNone() {
        WheelOnWheel x = withOneToUndo();
        x.wheel(0, 1, 0, 0, 1);
        DUE.is(36, "behind wheel()", x.undo(), -3);
        x = withOneToUndo();
        x.change(0, 1, 1);
        DUE.is(36, "behind change()", x.undo(), -3);
        x = withOneToUndo();
        x.ring(24);
        DUE.is(36, "behind ring()", x.undo(), -3);
        x = withOneToUndo();
        Due.sheet(x, "g001;");
        DUE.is(36, "behind a SHEET", x.undo(), -3);
        x = withOneToUndo();
        x.on();
        DUE.is(36, "behind on()", x.undo(), -3);
    }

    private static void whatStaysUndoable() {
        WheelOnWheel x = withOneToUndo();
        x.wheel(6, 1, 0, 0, 1);
        x.change(0, 1, 24);
        x.ring(2);
        Due.sheet(x, "g101;");
        Due.sheet(x, "g1");
        x.image();
        x.roll(0, 41);
        x.puts(0, 24);
        x.wears(24);
        x.list(0, 3);
        x.touch(1, 3, 0);
        x.lots(3, 3, 0);
        DUE.is(36, "count(6)", x.count(6), 1);
        DUE.is(36, "undo()", x.undo(), 0);
        DUE.is(36, "AT", x.of(0, 4), 0);
        WheelOnWheel y = new WheelOnWheel();
        y.wears(1);
        DUE.is(36, "refused on() leaves it", y.on(), -3);
        DUE.is(36, "count(6)", y.count(6), 1);
    }

    private static void image() {
        WheelOnWheel x = new WheelOnWheel();
        DUE.is(38, "no IMAGE", x.on(), -3);
        DUE.is(38, "count(13)", x.count(13), 1);
        DUE.is(37, "image() of none", x.image(), 0);
        x.wheel(0, 8, 0, 1, 3);
        x.roll(0, 4);
        DUE.is(38, "on() to none", x.on(), 0);
        DUE.is(38, "no WHEELS", x.count(0), 0);
        DUE.is(38, "no INK", x.count(4), 0);
        DUE.is(38, "WHEEL 0", x.of(0, 0), -1);
        x.wheel(0, 8, 0, 1, 3);
        x.wheel(1, 8, 0, 1, 3);
        DUE.is(37, "image() of two", x.image(), 2);
        x.ring(9);
        DUE.is(38, "on() again", x.on(), 2);
        DUE.is(38, "R", x.count(1), 24);
        x.roll(0, 1);
        DUE.is(38, "on() once more", x.on(), 2);
        DUE.is(38, "AT", x.of(0, 4), 1);
    }

    private static void imageHoldsAll() {
        WheelOnWheel x = new WheelOnWheel();
        x.wheel(4, 8, 3, 1, 3);
        x.roll(0, 4);
        x.wears(5);
        x.list(0, 2);
        x.put(0, 1, 11);
        x.letter('x');
        x.image();
        int[] wheel = new int[8];
        for (int what = 0; what < 8; what++) {
            wheel[what] = x.of(0, what);
        }
        long ink = x.count(4);
        int blot = x.inked(3);
        x.change(0, 1, 3);
        x.change(0, 2, 0);
        x.change(0, 3, 1);
        x.roll(0, 7);
        x.wheel(5, 1, 0, 0, 1);
        x.wears(5);
        x.wears(6);
        x.put(0, 1, 12);
        x.letter('0');
        x.of(9, 0);
        x.ring(60);
        DUE.is(38, "on()", x.on(), 1);
        for (int what = 0; what < 8; what++) {
            DUE.is(38, "of(0, " + what + ")", x.of(0, what), wheel[what]);
        }
        DUE.is(38, "R", x.count(1), 24);
        DUE.is(38, "INK", x.count(4), ink);
        DUE.is(38, "INK is 4", ink, 4);
        DUE.is(38, "BLOT", x.inked(3), blot);
        DUE.is(38, "WORN 5", x.tooth(5, 0), 1);
        DUE.is(38, "WORN teeth", x.count(3), 1);
        DUE.is(38, "letters stay", x.count(5), 2);
        DUE.is(38, "LISTS stay", x.look(0, 1), 12);
        DUE.is(38, "REFUSALS stay", x.count(11), 1);
        DUE.is(38, "none can be UNDONE", x.count(6), 0);
    }

    private static void count() {
        WheelOnWheel x = new WheelOnWheel();
        x.ring(30);
        x.wheel(0, 8, 0, 1, 3);
        x.wheel(0, 8, 0, 1, 3);
        x.roll(0, 20);
        x.roll(1, 1);
        x.wears(5);
        x.wears(6);
        x.wears(7);
        x.letter('x');
        x.of(9, 0);
        x.tooth(0, 2);
        x.tooth(0, 3);
        x.on();
        x.roll(0, 0);
        x.roll(0, 50);
        x.roll(0, 50);
        x.put(0, 0, 0);
        x.list(0, -5);
        long[] due = {2, 30, 15, 3, 21, 1, 5};
        for (int what = 0; what < due.length; what++) {
            DUE.is(39, "count(" + what + ")", x.count(what), due[what]);
        }
        int[] refused = {1, 2, 1, 1, 0, 2};
        for (int i = 0; i < refused.length; i++) {
            DUE.is(39, "count(" + (11 + i) + ")", x.count(11 + i), refused[i]);
        }
        int[] others = {-1, 7, 8, 9, 10, 17, Integer.MIN_VALUE, Integer.MAX_VALUE};
        for (int what : others) {
            DUE.is(39, "count(" + what + ")", x.count(what), -9);
        }
        DUE.is(39, "no refusal by count()", x.count(12), 2);
    }
}
