import java.util.List;

/** Edges of the document's part 4, its second half: a ring anew, what is undone, the image, what is counted. */
public final class EdgesOfUndoneTest {
    private static final Due DUE = new Due("EdgesOfUndoneTest");

    public static void main(String[] args) {
        ringAboveSizeAndAt();
        ringAboveThoseOfSixWheels();
        ringOfWheelsThatAreNoMore();
        ringIsClean();
        ringLeavesTheWheels();
        noneToUndo();
        eightToUndo();
        latestFirst();
        allThatStaysCounts();
        refusedOnesDontCount();
        undoneAsAhead();
        undoneFromTheMost();
        undoneBetweenOthers();
        leaveNone();
        refusedLeaveAll();
        othersLeaveAll();
        noImageAtFirst();
        imageOfNoWheels();
        imageOfSixWheels();
        theLatestImage();
        onAgainAndAgain();
        onLeavesLettersListsAndRefusals();
        imageIsApart();
        countOfAnotherWhat();
        countOfEachAtItsMost();
        DUE.close();
    }

    private static WheelOnWheel with(int teeth, int size, int tooth) {
        WheelOnWheel x = Due.withRing(teeth);
        x.wheel(0, size, 0, tooth, 1);
        return x;
    }

    /** "if each WHEEL's SIZE and AT are less than n" */
    private static void ringAboveSizeAndAt() {
        DUE.is(4, "SIZE 9, n 9", with(24, 9, 0).ring(9), -3);
        DUE.is(4, "SIZE 9, n 10", with(24, 9, 0).ring(10), 24);
        DUE.is(4, "AT 9, n 9", with(24, 1, 9).ring(9), -3);
        DUE.is(4, "AT 9, n 10", with(24, 1, 9).ring(10), 24);
        DUE.is(4, "SIZE 59 and AT 59, n 60", with(60, 59, 59).ring(60), 60);
        DUE.is(4, "SIZE 59, n 59", with(60, 59, 0).ring(59), -3);
        DUE.is(4, "SIZE 2 and AT 2, n 3", with(24, 2, 2).ring(3), 24);
        DUE.is(4, "SIZE 3, n 3", with(24, 3, 0).ring(3), -3);
        DUE.is(4, "no WHEELS", new WheelOnWheel().ring(3), 24);
        WheelOnWheel x = with(24, 9, 5);
        DUE.is(4, "n 2 is below ahead of STATE", x.ring(2), -4);
        x.roll(0, 1);
        DUE.is(4, "AT 14 since", x.ring(14), -3);
        x.change(0, 1, 14);
        DUE.is(4, "SIZE 14 since", x.ring(15), 24);
    }

    /** "each WHEEL's": of six the last, too. */
    private static void ringAboveThoseOfSixWheels() {
        for (int other = 0; other < 6; other++) {
            WheelOnWheel x = new WheelOnWheel();
            WheelOnWheel y = new WheelOnWheel();
            for (int i = 0; i < 6; i++) {
                x.wheel(i, i == other ? 12 : 1, 0, 0, 1);
                y.wheel(i, 1, 0, i == other ? 12 : 0, 1);
            }
            DUE.is(4, "SIZE 12 of WHEEL " + other, x.ring(12), -3);
            DUE.is(4, "SIZE 12 of WHEEL " + other, x.ring(13), 24);
            DUE.is(4, "AT 12 of WHEEL " + other, y.ring(12), -3);
            DUE.is(4, "AT 12 of WHEEL " + other, y.ring(13), 24);
        }
    }

    /** WHEELS that came behind THE IMAGE are none any more behind ON. */
    private static void ringOfWheelsThatAreNoMore() {
        WheelOnWheel x = with(24, 1, 0);
        x.image();
        x.wheel(0, 20, 0, 22, 1);
        DUE.is(4, "ring(20)", x.ring(20), -3);
        x.on();
        DUE.is(4, "ring(3)", x.ring(3), 24);
        Due.sheet(x, "r24;");
        x.image();
        Due.sheet(x, "w0200001;");
        x.on();
        DUE.is(3, "r03", Due.sheet(x, "r03;"), 1);
    }

    /** "then no tooth is WORN, none has INK": with the same n, too; behind a refused call they stay. */
    private static void ringIsClean() {
        int[] rings = {10, 24, 60};
        for (int n : rings) {
            WheelOnWheel x = with(24, 1, 0);
            x.roll(0, 9);
            x.wears(0);
            x.wears(9);
            x.wears(23);
            DUE.is(4, "ring(9)", x.ring(9), -3);
            DUE.is(4, "WORN stay", x.count(3), 3);
            DUE.is(4, "INK stays", x.count(4), 9);
            DUE.is(4, "ring(" + n + ")", x.ring(n), 24);
            DUE.is(4, "none WORN", x.count(3), 0);
            DUE.is(4, "no INK", x.count(4), 0);
            DUE.is(4, "ring(60)", x.ring(60), n);
            DUE.is(4, "none WORN", x.count(3), 0);
            DUE.is(4, "no INK", x.count(4), 0);
        }
    }

    /** "THE RING becomes one of n teeth": WHEELS stay as they are, ROLLED, too. */
    private static void ringLeavesTheWheels() {
        WheelOnWheel x = Due.withRing(24);
        x.wheel(2, 7, 3, 5, 4);
        x.roll(0, 2);
        DUE.is(4, "ring(60)", x.ring(60), 24);
        int[] due = {2, 7, 3, 4, 1, 2};
        for (int what = 0; what < due.length; what++) {
            DUE.is(4, "of(0, " + what + ")", x.of(0, what), due[what]);
        }
    }

    /** "-3 there is none" */
    private static void noneToUndo() {
        WheelOnWheel x = with(24, 1, 0);
        DUE.is(36, "none so far", x.undo(), -3);
        x.roll(0, 1);
        DUE.is(36, "one", x.undo(), 0);
        DUE.is(36, "none any more", x.undo(), -3);
        DUE.is(36, "AT", x.of(0, 4), 0);
        DUE.is(39, "count(13)", x.count(13), 2);
    }

    /** "8 at most (older ones no more ..)" */
    private static void eightToUndo() {
        for (int calls = 7; calls <= 17; calls++) {
            WheelOnWheel x = with(60, 1, 0);
            int kept = Math.min(calls, 8);
            for (int i = 1; i <= calls; i++) {
                x.roll(0, 1);
                DUE.is(39, "count(6)", x.count(6), Math.min(i, 8));
            }
            for (int i = kept - 1; i >= 0; i--) {
                DUE.is(36, "undo()", x.undo(), i);
                DUE.is(36, "AT", x.of(0, 4), calls - kept + i);
            }
            DUE.is(36, "no more", x.undo(), -3);
            DUE.is(36, "INK of the older ones", x.count(4), calls - kept);
        }
    }

    /** "the latest first" */
    private static void latestFirst() {
        WheelOnWheel x = with(24, 1, 0);
        x.puts(0, 5);
        x.wears(6);
        x.roll(0, 1);
        DUE.is(36, "the roll", x.undo(), 2);
        DUE.is(36, "AT", x.of(0, 4), 5);
        DUE.is(36, "WORN", x.count(3), 1);
        DUE.is(36, "the WORN tooth", x.undo(), 1);
        DUE.is(36, "AT", x.of(0, 4), 5);
        DUE.is(36, "WORN", x.count(3), 0);
        DUE.is(36, "where it was put", x.undo(), 0);
        DUE.is(36, "AT", x.of(0, 4), 0);
    }

    /** "each that isn't refused counts, also if all stays as it was" */
    private static void allThatStaysCounts() {
        WheelOnWheel x = with(24, 1, 9);
        DUE.is(8, "puts(0, 9)", x.puts(0, 9), 9);
        DUE.is(39, "count(6)", x.count(6), 1);
        x.wears(3);
        x.wears(3);
        DUE.is(39, "count(6)", x.count(6), 3);
        DUE.is(36, "undo()", x.undo(), 2);
        DUE.is(36, "WORN again", x.tooth(3, 0), 1);
        DUE.is(36, "undo()", x.undo(), 1);
        DUE.is(36, "undo()", x.undo(), 0);
        DUE.is(36, "AT", x.of(0, 4), 9);
        // At the most a roll of a WHEEL that stays changes nothing, but counts.
        WheelOnWheel y = Due.withRing(24);
        y.wheel(5, 12, 0, 7, 1);
        for (int i = 0; i < 251; i++) {
            y.roll(0, 40);
        }
        y.wears(0);
        y.roll(0, 40);
        DUE.is(36, "undo()", y.undo(), 7);
        DUE.is(36, "WORN still", y.tooth(0, 0), 1);
        DUE.is(36, "undo()", y.undo(), 6);
        DUE.is(36, "not WORN", y.tooth(0, 0), 0);
    }

    /** "each that isn't refused": a refused one can't be UNDONE. */
    private static void refusedOnesDontCount() {
        WheelOnWheel x = with(24, 1, 9);
        x.roll(0, 0);
        x.roll(0, 41);
        x.roll(1, 1);
        x.puts(0, 24);
        x.puts(1, 0);
        x.wears(24);
        x.wears(-1);
        DUE.is(39, "count(6)", x.count(6), 0);
        DUE.is(36, "undo()", x.undo(), -3);
    }

    /** "AT, ROLLED of all, INK, WORN teeth are as ahead of it" */
    private static void undoneAsAhead() {
        WheelOnWheel x = with(24, 3, 0);
        x.wheel(4, 2, 0, 5, 1);
        x.wears(1);
        x.roll(1, 2);
        WheelOnWheel y = with(24, 3, 0);
        y.wheel(4, 2, 0, 5, 1);
        y.wears(1);
        y.roll(1, 2);
        x.roll(0, 40);
        x.roll(1, 40);
        x.wears(1);
        x.wears(2);
        x.puts(0, 23);
        x.puts(1, 23);
        for (int i = 7; i >= 2; i--) {
            DUE.is(36, "undo()", x.undo(), i);
        }
        DUE.holds("all as ahead of them", Seen.plainly(x).equals(Seen.plainly(y)));
    }

    /** INK and ROLLED that came to 9999 go back to what they were, not to so many less. */
    private static void undoneFromTheMost() {
        WheelOnWheel x = Due.withRing(24);
        x.wheel(5, 12, 0, 7, 1);
        for (int i = 0; i < 249; i++) {
            x.roll(0, 40);
        }
        x.roll(0, 38);
        x.roll(0, 2);
        DUE.is(36, "undo()", x.undo(), 7);
        DUE.is(36, "INK", x.tooth(7, 1), 9998);
        DUE.is(36, "ROLLED", x.of(0, 5), 9998);
    }

    /** What is UNDONE makes room; new ones come behind those that are left. */
    private static void undoneBetweenOthers() {
        WheelOnWheel x = with(60, 1, 0);
        for (int i = 0; i < 10; i++) {
            x.roll(0, 1);
        }
        DUE.is(36, "undo()", x.undo(), 7);
        DUE.is(36, "undo()", x.undo(), 6);
        x.puts(0, 50);
        DUE.is(39, "count(6)", x.count(6), 7);
        DUE.is(36, "undo()", x.undo(), 6);
        DUE.is(36, "AT", x.of(0, 4), 8);
        for (int i = 5; i >= 0; i--) {
            DUE.is(36, "undo()", x.undo(), i);
            DUE.is(36, "AT", x.of(0, 4), i + 2);
        }
        DUE.is(36, "no more", x.undo(), -3);
    }

    private static WheelOnWheel withTwoToUndo() {
        WheelOnWheel x = with(24, 1, 0);
        x.image();
        x.roll(0, 1);
        x.wears(1);
        return x;
    }

    private static void leavesNone(String call, int answer, int... numbers) {
        WheelOnWheel x = withTwoToUndo();
        DUE.is(36, Seen.told(call, numbers), Seen.call(x, call, numbers), answer);
        DUE.is(39, "count(6) behind " + call, x.count(6), 0);
        DUE.is(36, "undo() behind " + call, x.undo(), -3);
        x.puts(0, 0);
        DUE.is(36, "a new one behind " + call, x.undo(), 0);
    }

    /** "wheel(), change(), ring(), a SHEET without FAULT, ON leave none", though they change nothing. */
    private static void leaveNone() {
        leavesNone("wheel", 1, 0, 1, 0, 0, 1);
        leavesNone("change", 1, 0, 1, 1);
        leavesNone("change", 0, 0, 2, 0);
        leavesNone("change", 1, 0, 3, 1);
        leavesNone("ring", 24, 24);
        leavesNone("on", 1);
        WheelOnWheel x = withTwoToUndo();
        DUE.is(3, "a SHEET", Due.sheet(x, "x05;x05;"), 2);
        DUE.is(39, "count(6) behind a SHEET", x.count(6), 0);
        DUE.is(36, "undo() behind a SHEET", x.undo(), -3);
    }

    private static void leavesBoth(String call, int... numbers) {
        WheelOnWheel x = withTwoToUndo();
        Seen.call(x, call, numbers);
        DUE.is(39, "count(6) behind " + Seen.told(call, numbers), x.count(6), 2);
        DUE.is(36, "undo()", x.undo(), 1);
        DUE.is(36, "undo()", x.undo(), 0);
        DUE.is(36, "AT", x.of(0, 4), 0);
    }

    /** ".. where they aren't refused" */
    private static void refusedLeaveAll() {
        leavesBoth("wheel", 6, 1, 0, 0, 1);
        leavesBoth("wheel", 0, 24, 0, 0, 1);
        leavesBoth("wheel", 0, 1, 0, 24, 1);
        leavesBoth("change", 1, 1, 1);
        leavesBoth("change", 0, 4, 1);
        leavesBoth("change", 0, 1, 0);
        leavesBoth("change", 0, 1, 24);
        leavesBoth("ring", 2);
        leavesBoth("ring", 61);
        leavesBoth("sheet");
        WheelOnWheel x = withTwoToUndo();
        DUE.is(3, "kind 2", Due.sheet(x, "g001;x24;"), -2005);
        DUE.is(39, "count(6) behind a FAULT", x.count(6), 2);
        WheelOnWheel y = with(24, 12, 0);
        y.roll(0, 1);
        DUE.is(38, "on() without an IMAGE", y.on(), -3);
        DUE.is(4, "ring(12)", y.ring(12), -3);
        DUE.is(39, "count(6) behind both", y.count(6), 1);
    }

    /** What changes nothing of THE RING or WHEELS leaves all that can be UNDONE, and isn't UNDONE itself. */
    private static void othersLeaveAll() {
        leavesBoth("image");
        leavesBoth("letter", 'x');
        leavesBoth("list", 0, 1);
        leavesBoth("lots", 50, 1, 0);
        leavesBoth("touch", 1, 99, 0);
        leavesBoth("crowd", 1, 100, 0);
        leavesBoth("drawing", 0, 6);
        WheelOnWheel x = withTwoToUndo();
        x.list(0, 2);
        x.put(0, 0, 7);
        x.lays(0, 1, 0);
        x.letter('y');
        x.undo();
        x.undo();
        DUE.is(36, "LISTS stay", x.look(0, 0), 7);
        DUE.is(36, "LISTS stay", x.look(0, 1), 1);
        DUE.is(36, "letters stay", x.count(5), 1);
    }

    /** "-3 there is no IMAGE" */
    private static void noImageAtFirst() {
        WheelOnWheel x = with(24, 1, 0);
        x.roll(0, 3);
        DUE.is(38, "on()", x.on(), -3);
        DUE.is(38, "AT", x.of(0, 4), 3);
        DUE.is(39, "count(13)", x.count(13), 1);
        DUE.is(37, "image()", x.image(), 1);
        DUE.is(38, "on()", x.on(), 1);
    }

    /** "THE IMAGE is taken: how many WHEELS": none. */
    private static void imageOfNoWheels() {
        WheelOnWheel x = new WheelOnWheel();
        DUE.is(37, "image()", x.image(), 0);
        x.ring(60);
        x.wheel(0, 59, 0, 59, 1);
        x.roll(0, 3);
        x.wears(59);
        DUE.is(38, "on()", x.on(), 0);
        int[] due = {0, 24, 0, 0, 0, 0, 0};
        for (int what = 0; what < due.length; what++) {
            DUE.is(38, "count(" + what + ")", x.count(what), due[what]);
        }
        DUE.is(38, "WHEEL 0", x.of(0, 0), -1);
        DUE.is(38, "a WHEEL more is the first", x.wheel(0, 1, 0, 0, 1), 0);
    }

    /** "THE RING with INK and WORN teeth, WHEELS with all that is theirs": six WHEELS on 60 teeth. */
    private static void imageOfSixWheels() {
        WheelOnWheel x = Due.withRing(60);
        for (int i = 0; i < 6; i++) {
            x.wheel(i, 59 - i, i, i, i + 1);
            x.roll(i, i + 1);
        }
        x.wears(59);
        List<Long> seen = Seen.plainly(x);
        DUE.is(37, "image()", x.image(), 6);
        for (int i = 0; i < 6; i++) {
            x.change(i, 1, 1);
            x.change(i, 2, 9);
            x.change(i, 3, 9);
            x.roll(i, 40);
        }
        x.ring(50);
        DUE.is(38, "on()", x.on(), 6);
        // ON leaves none to be UNDONE.
        seen.set(6, 0L);
        DUE.holds("as then, but for what can be UNDONE", Seen.plainly(x).equals(seen));
        DUE.is(38, "a seventh", x.wheel(0, 1, 0, 0, 1), -6);
    }

    /** "ON from it": from the one that was taken last. */
    private static void theLatestImage() {
        WheelOnWheel x = with(24, 1, 0);
        x.image();
        x.roll(0, 1);
        x.image();
        x.roll(0, 1);
        DUE.is(38, "on()", x.on(), 1);
        DUE.is(38, "AT", x.of(0, 4), 1);
    }

    /** ON doesn't use THE IMAGE up. */
    private static void onAgainAndAgain() {
        WheelOnWheel x = with(24, 1, 0);
        x.image();
        for (int i = 0; i < 3; i++) {
            x.roll(0, 2);
            x.wears(3);
            DUE.is(38, "on()", x.on(), 1);
            DUE.is(38, "AT", x.of(0, 4), 0);
            DUE.is(38, "INK", x.count(4), 0);
            DUE.is(38, "WORN", x.count(3), 0);
        }
    }

    /** "(letters, LISTS stay)", and how many REFUSALS there were. */
    private static void onLeavesLettersListsAndRefusals() {
        WheelOnWheel x = with(24, 1, 0);
        x.letter('x');
        x.list(0, 1);
        x.image();
        x.letter('0');
        x.letter('0');
        x.put(0, 0, 7);
        x.list(1, 0);
        x.of(9, 0);
        x.on();
        DUE.is(38, "letters", x.count(5), 3);
        DUE.is(38, "a number", x.look(0, 0), 7);
        DUE.is(38, "a LIST of none", x.look(1, 0), Due.refusal(-13));
        DUE.is(38, "a missing LIST", x.look(2, 0), Due.refusal(-11));
        DUE.is(38, "REFUSALS", x.count(11), 1);
        x.letter(';');
        DUE.is(38, "the letters are a SHEET", x.sheet(), 1);
    }

    /** What changes behind image() or on() doesn't change THE IMAGE; nor do UNDONE calls. */
    private static void imageIsApart() {
        WheelOnWheel x = with(24, 1, 0);
        x.roll(0, 3);
        x.image();
        DUE.is(36, "undo()", x.undo(), 0);
        DUE.is(36, "AT", x.of(0, 4), 0);
        DUE.is(38, "on()", x.on(), 1);
        DUE.is(38, "AT", x.of(0, 4), 3);
        DUE.is(36, "none to undo", x.undo(), -3);
    }

    /** "-9 for another what", which is no REFUSAL */
    private static void countOfAnotherWhat() {
        WheelOnWheel x = new WheelOnWheel();
        int[] others = {Integer.MIN_VALUE, -1, 7, 8, 9, 10, 17, Integer.MAX_VALUE};
        for (int what : others) {
            DUE.is(39, "count(" + what + ")", x.count(what), -9);
        }
        for (int what = 11; what <= 16; what++) {
            DUE.is(39, "count(" + what + ")", x.count(what), 0);
        }
    }

    /** All teeth INKED and WORN, six WHEELS, 72 letters, eight to undo. */
    private static void countOfEachAtItsMost() {
        WheelOnWheel x = Due.withRing(60);
        for (int i = 0; i < 6; i++) {
            x.wheel(0, 1, 0, 0, 1);
        }
        x.roll(0, 40);
        x.roll(1, 40);
        x.roll(0, 40);
        for (int t = 0; t < 60; t++) {
            x.wears(t);
        }
        for (int i = 0; i < 73; i++) {
            x.letter('x');
        }
        int[] due = {6, 60, 60, 60, 120, 72, 8};
        for (int what = 0; what < due.length; what++) {
            DUE.is(39, "count(" + what + ")", x.count(what), due[what]);
        }
    }
}
