import java.util.List;

/** Edges of the document's "What it is": an object that is used for all of its 512 calls, and one beside another. */
public final class EdgesOfRunsTest {
    private static final Due DUE = new Due("EdgesOfRunsTest");
    private static final int CALLS = 512;

    public static void main(String[] args) {
        refusedUpToTheLastCall();
        longRefusedUpToTheLastCall();
        lettersUpToTheLastCall();
        rolledUpToTheLastCall();
        undoneUpToTheLastCall();
        objectsAreApart();
        DUE.close();
    }

    /** "An object is used for at most 512 calls": 511 are refused, the last counts them. */
    private static void refusedUpToTheLastCall() {
        WheelOnWheel nobody = new WheelOnWheel();
        WheelOnWheel other = new WheelOnWheel();
        WheelOnWheel room = new WheelOnWheel();
        for (int call = 1; call < CALLS; call++) {
            DUE.is(13, "drawing of nobody, call " + call, nobody.drawing(0, 0), -1);
            DUE.is(25, "inked(4), call " + call, other.inked(4), -2);
            DUE.is(4, "ring(61), call " + call, room.ring(61), -6);
        }
        DUE.is(39, "count(11)", nobody.count(11), CALLS - 1);
        DUE.is(39, "count(12)", other.count(12), CALLS - 1);
        DUE.is(39, "count(16)", room.count(16), CALLS - 1);
    }

    /** "Of longs 4000000000000000000 less them": those are counted as often; -11 isn't. */
    private static void longRefusedUpToTheLastCall() {
        WheelOnWheel nobody = new WheelOnWheel();
        WheelOnWheel missing = new WheelOnWheel();
        for (int call = 1; call < CALLS; call++) {
            DUE.is(10, "ratio of nobody, call " + call, nobody.ratio(0, 0), Due.refusal(-1));
            DUE.is(34, "look at none, call " + call, missing.look(0, 0), Due.refusal(-11));
        }
        DUE.is(39, "count(11)", nobody.count(11), CALLS - 1);
        DUE.is(39, "count(11) of -11", missing.count(11), 0);
    }

    /** "The letters become a SHEET, and are no more (with a FAULT neither)": some 100 SHEETS, each other one with a FAULT. */
    private static void lettersUpToTheLastCall() {
        WheelOnWheel x = new WheelOnWheel();
        int calls = 0;
        for (int round = 0; calls + 9 < CALLS; round++) {
            DUE.is(3, "something lacks, round " + round, Due.sheet(x, "x07"), -1003);
            DUE.is(3, "nothing lacks, round " + round, Due.sheet(x, "x07;"), 1);
            DUE.is(39, "WORN, round " + round, x.count(3), (round + 1) % 2);
            calls += 10;
        }
        DUE.is(39, "letters", x.count(5), 0);
    }

    /** "ROLLED (0 .. 9999)", "INK (0 .. 9999)": 510 rolls come to more than both. */
    private static void rolledUpToTheLastCall() {
        WheelOnWheel x = new WheelOnWheel();
        WheelOnWheel y = new WheelOnWheel();
        x.wheel(3, 12, 0, 5, 9);
        y.wheel(3, 12, 0, 5, 9);
        for (int call = 2; call < CALLS; call++) {
            DUE.is(24, "roll, call " + call, x.roll(0, 39), call % 2 == 0 ? 17 : 5);
            DUE.is(24, "roll, call " + call, y.roll(0, 40), 5);
        }
        DUE.is(6, "ROLLED", x.of(0, 5), 9999);
        DUE.is(39, "all INK", y.count(4), 2 * 9999);
    }

    /** What can be UNDONE stays eight, though 503 calls are older; the last one UNDOES the latest. */
    private static void undoneUpToTheLastCall() {
        WheelOnWheel x = new WheelOnWheel();
        for (int call = 1; call < CALLS - 9; call++) {
            x.wears(call % 24);
        }
        int worn = x.count(3);
        DUE.is(39, "what can be UNDONE", x.count(6), 8);
        int latest = x.tooth((CALLS - 10) % 24, 0);
        for (int left = 7; left > 1; left--) {
            DUE.is(36, "undo", x.undo(), left);
        }
        // Six unlike teeth were worn or mended one after the other, all alike: 502 is 20 rounds and 22 teeth.
        DUE.is(39, "WORN ones", x.count(3), latest == 1 ? worn - 6 : worn + 6);
    }

    /** "An object": nothing of one is another's, not a ring, WHEELS, letters, LISTS, THE IMAGE or what is counted. */
    private static void objectsAreApart() {
        List<Long> fresh = Seen.plainly(new WheelOnWheel());
        WheelOnWheel one = new WheelOnWheel();
        WheelOnWheel other = Seen.some();
        List<Long> some = Seen.plainly(other);
        other.image();
        other.ring(0);
        DUE.holds("a new one is as ever", Seen.plainly(one).equals(fresh));
        DUE.is(38, "no IMAGE of its own", one.on(), -3);
        DUE.is(36, "nothing to undo", one.undo(), -3);
        DUE.is(39, "-4", one.count(14), 0);
        one.ring(60);
        one.wheel(5, 59, 9, 59, 9);
        one.list(0, 40);
        one.letter(255);
        one.image();
        DUE.holds("the other one is as it was", Seen.plainly(other).equals(some));
        DUE.is(38, "ON from its own IMAGE", other.on(), other.count(0));
        DUE.is(39, "-3", other.count(13), 0);
    }
}
