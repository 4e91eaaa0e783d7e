/** Promises 13 to 20: what the drawings of wheels are like. */
public final class DrawingsTest {
    private static final Due DUE = new Due("DrawingsTest");

    public static void main(String[] args) {
        pentagram();
        withTail();
        slippedDrawing();
        unevenDrawings();
        backwardAndDouble();
        oneCusp();
        choosyDrawing();
        refusedDrawings();
        behind();
        between();
        mirrorsOfTriangles();
        mirrorsOfOneCusp();
        mirrorsOfSlipped();
        refusedMirrors();
        full();
        odds();
        DUE.close();
    }

    /** All that drawing() tells of WHEEL 0, in the order of what. */
    private static void drawing(WheelOnWheel x, int... due) {
        for (int what = 0; what < due.length; what++) {
            DUE.is(13, "drawing(0, " + what + ")", x.drawing(0, what), due[what]);
        }
    }

    private static void begins(WheelOnWheel x, int... due) {
        for (int i = 0; i < due.length; i++) {
            DUE.is(14, "arc(0, " + i + ")", x.arc(0, i), due[i]);
        }
        DUE.is(14, "arc behind the last", x.arc(0, due.length), -9);
    }

    private static void crosses(WheelOnWheel x, int... due) {
        for (int i = 0; i < due.length; i++) {
            DUE.is(15, "crosses(0, " + i + ")", x.crosses(0, i), due[i]);
        }
        DUE.is(15, "crosses behind the last", x.crosses(0, due.length), -9);
    }

    private static void pentagram() {
        WheelOnWheel x = Due.with(5, 0, 2, 0, 1);
        drawing(x, 0, 5, 5, 2, 1, 0, 5, 0);
        begins(x, 1, 3, 0, 2, 4);
        crosses(x, 2, 2, 2, 2, 2);
        DUE.is(13, "in thought alone", x.of(0, 4), 1);
        DUE.is(13, "no INK", x.count(4), 0);
    }

    private static void withTail() {
        // Slips on 0 and 4: 0 to 3, 4 to 0; 5 to 6 to 0 to 3 to 4 to 0.
        WheelOnWheel x = Due.with(7, 2, 1, 2, 5);
        drawing(x, 2, 3, 5, 1, 3, 0, 0, 0);
        begins(x, 5, 6, 0, 3, 4);
        crosses(x, 0, 0, 0, 0, 0);
        x.puts(0, 1);
        drawing(x, 2, 3, 5, 1, 3, 4, 0, 0);
        begins(x, 1, 2, 3, 4, 0);
    }

    private static void slippedDrawing() {
        // Slips on 0, 3 and 6: 0-3, 1-3, 2-4, 3-6, 4-6, 5-0, 6-2.
        WheelOnWheel x = Due.with(7, 2, 2, 1, 1);
        drawing(x, 2, 3, 5, 1, 2, 4, 3, 0);
        begins(x, 1, 3, 6, 2, 4);
        crosses(x, 2, 1, 1, 2, 0);
        x.puts(0, 5);
        drawing(x, 3, 3, 6, 1, 2, 0, 6, 0);
        begins(x, 5, 0, 3, 6, 2, 4);
        crosses(x, 3, 2, 2, 2, 2, 1);
        x.puts(0, 4);
        drawing(x, 0, 3, 3, 1, 3, 6, 0, 0);
    }

    private static void unevenDrawings() {
        // Slips on 0 and 4: 2-4, 4-1, 1-3, 3-5, 5-0, 0-4.
        WheelOnWheel x = Due.with(7, 2, 2, 2, 2);
        crosses(x, 2, 1, 1, 3, 0, 1);
        begins(x, 2, 4, 1, 3, 5, 0);
        drawing(x, 1, 5, 6, 2, 2, 5, 4, 3);
        // Slips on 0 and 5: 0-6, 6-2, 2-5, 5-4, 4-0, of 6, 3, 3, 6 and 3 teeth.
        WheelOnWheel y = Due.with(7, 2, 3, 3, 0);
        drawing(y, 0, 5, 5, 3, 2, 0, 2, 4);
        begins(y, 0, 6, 2, 5, 4);
        crosses(y, 0, 1, 1, 0, 2);
    }

    private static void backwardAndDouble() {
        WheelOnWheel x = Due.with(8, 3, 3, 0, 0);
        // 0, 5, 2, 7, 4, 1, 6, 3: eight arcs of three teeth each.
        drawing(x, 0, 8, 8, 3, 1, 0, 16, 0);
        begins(x, 0, 5, 2, 7, 4, 1, 6, 3);
        crosses(x, 4, 4, 4, 4, 4, 4, 4, 4);
        WheelOnWheel y = Due.with(9, 5, 4, 0, 2);
        // Eight less is one more on nine teeth, but it goes eight.
        drawing(y, 0, 9, 9, 8, 1, 0, 0, 0);
        begins(y, 2, 3, 4, 5, 6, 7, 8, 0, 1);
        WheelOnWheel z = Due.with(12, 1, 4, 0, 3);
        drawing(z, 0, 3, 3, 1, 4, 3, 0, 0);
        begins(z, 3, 7, 11);
    }

    private static void oneCusp() {
        WheelOnWheel x = Due.with(24, 5, 12, 0, 7);
        drawing(x, 0, 1, 1, 0, 24, 7, 0, 0);
        begins(x, 7);
        crosses(x, 0);
        DUE.is(16, "behind its tooth", x.behind(0, 7), 7);
        DUE.is(16, "behind the next tooth", x.behind(0, 8), 7);
    }

    private static void choosyDrawing() {
        WheelOnWheel x = Due.with(8, 4, 3, 0, 0);
        begins(x, 0, 3, 6, 1, 4, 7, 2, 5);
        x.wears(3);
        x.wears(4);
        // 0 to 5, 5 to 0: one arc there, one back.
        drawing(x, 0, 2, 2, 1, 5, 0, 0, 0);
        begins(x, 0, 5);
        x.puts(0, 3);
        // 3-6, 6-1, 1-5, 5-0, 0-5: the first crosses the last three, the second the last two.
        begins(x, 3, 6, 1, 5, 0);
        crosses(x, 3, 2, 1, 2, 2);
        drawing(x, 3, 2, 5, 1, 2, 1, 5, 0);
    }

    private static void refusedDrawings() {
        WheelOnWheel x = Due.with(5, 0, 2, 0, 1);
        DUE.is(13, "what 8", x.drawing(0, 8), -2);
        DUE.is(13, "what -1", x.drawing(0, -1), -2);
        DUE.is(13, "WHEEL 1 ahead of what", x.drawing(1, 8), -1);
        DUE.is(14, "arc -1", x.arc(0, -1), -4);
        DUE.is(14, "WHEEL 1 ahead of the arc", x.arc(1, -1), -1);
        DUE.is(14, "far behind the last", x.arc(0, Integer.MAX_VALUE), -9);
        DUE.is(15, "arc -1", x.crosses(0, -1), -4);
        DUE.is(15, "WHEEL 1 ahead of the arc", x.crosses(1, -1), -1);
        DUE.is(15, "far behind the last", x.crosses(0, Integer.MAX_VALUE), -9);
        DUE.is(15, "count(11)", x.count(11), 3);
        DUE.is(15, "count(12)", x.count(12), 2);
        DUE.is(15, "count(14)", x.count(14), 2);
    }

    private static void behind() {
        WheelOnWheel x = Due.with(24, 0, 9, 0, 1);
        // CUSPS: 1, 4, 7, .. 22.
        DUE.is(16, "behind(0, 0)", x.behind(0, 0), 1);
        DUE.is(16, "behind(0, 1)", x.behind(0, 1), 1);
        DUE.is(16, "behind(0, 2)", x.behind(0, 2), 4);
        DUE.is(16, "behind(0, 23)", x.behind(0, 23), 1);
        DUE.is(16, "tooth 24", x.behind(0, 24), -1);
        DUE.is(16, "tooth -1", x.behind(0, -1), -1);
        DUE.is(16, "WHEEL 1", x.behind(1, 0), -1);
    }

    private static void between() {
        WheelOnWheel x = Due.with(5, 0, 2, 0, 1);
        x.wheel(4, 1, 0, 0, 1);
        x.wheel(1, 2, 0, 0, 1);
        x.wheel(3, 2, 0, 0, 1);
        DUE.is(17, "one twice", x.between(0, 0), 10);
        DUE.is(17, "a pentagon has no tooth between", x.between(0, 1), 0);
        DUE.is(17, "unlike SIDES", x.between(0, 2), 0);
        DUE.is(17, "unlike SIDES the other way", x.between(2, 0), 0);
        DUE.is(17, "the same teeth the other way", x.between(2, 3), 10);
        DUE.is(17, "WHEEL 4", x.between(0, 4), -1);
        DUE.is(17, "WHEEL -1", x.between(-1, 0), -1);
        WheelOnWheel y = Due.with(12, 0, 4, 0, 0);
        y.wheel(2, 4, 0, 1, 1);
        y.wheel(0, 6, 0, 2, 1);
        DUE.is(17, "two triangles", y.between(0, 1), 6);
        // 2-8 and back are two arcs; 0-4 and 8-0 and 4-8: the second and third end at 8.
        DUE.is(17, "a triangle and a line", y.between(0, 2), 2);
        DUE.is(17, "a line and a triangle", y.between(2, 0), 2);
    }

    private static void mirrorsOfTriangles() {
        WheelOnWheel x = Due.with(24, 0, 8, 0, 0);
        x.wheel(0, 8, 0, 1, 1);
        x.wheel(2, 16, 0, 9, 1);
        x.wheel(1, 8, 0, 0, 1);
        x.wheel(0, 12, 0, 0, 1);
        DUE.is(18, "itself", x.mirror(0, 0, 0), 0);
        DUE.is(18, "itself turned", x.mirror(0, 0, 1), 0);
        DUE.is(18, "mirror(0, 1, 0)", x.mirror(0, 1, 0), 1);
        DUE.is(18, "mirror(0, 1, 1)", x.mirror(0, 1, 1), 1);
        DUE.is(18, "mirror(1, 0, 0)", x.mirror(1, 0, 0), 1);
        DUE.is(18, "mirror(1, 0, 1)", x.mirror(1, 0, 1), 7);
        DUE.is(18, "1 mirrored on itself", x.mirror(1, 1, 0), 2);
        DUE.is(18, "whichever way it goes", x.mirror(1, 2, 1), 0);
        DUE.is(18, "unlike SIDES", x.mirror(0, 3, 0), -9);
        DUE.is(18, "unlike SIDES turned", x.mirror(3, 0, 1), -9);
        DUE.is(18, "unlike drawings", x.mirror(0, 4, 0), -9);
        DUE.is(18, "unlike drawings turned", x.mirror(4, 0, 1), -9);
        DUE.is(18, "a drawing told of between", x.drawing(0, 2), 3);
        DUE.is(18, "as before", x.mirror(0, 1, 0), 1);
    }

    private static void mirrorsOfOneCusp() {
        WheelOnWheel x = Due.with(24, 5, 12, 0, 5);
        x.wheel(5, 12, 0, 7, 1);
        DUE.is(18, "mirror(0, 1, 0)", x.mirror(0, 1, 0), 12);
        DUE.is(18, "mirror(1, 0, 0)", x.mirror(1, 0, 0), 12);
        DUE.is(18, "mirror(0, 1, 1)", x.mirror(0, 1, 1), 2);
        DUE.is(18, "mirror(1, 0, 1)", x.mirror(1, 0, 1), 22);
    }

    private static void mirrorsOfSlipped() {
        WheelOnWheel x = Due.with(7, 2, 2, 1, 4);
        // 4-6-2: three arcs of 2, 2 and 3 teeth; from 5 there are six arcs; of INNER 2 seven.
        x.wheel(2, 2, 1, 5, 1);
        x.wheel(0, 2, 0, 0, 1);
        // 2 by 0 and 3 slips 3 more on 0 and 5: 6-1-3-5-3: told alike 3-5 and 5-3 are one.
        x.wheel(2, 2, 3, 6, 1);
        DUE.is(18, "a triangle on its long side", x.mirror(0, 0, 0), 1);
        DUE.is(18, "with another", x.mirror(0, 1, 0), -9);
        DUE.is(18, "with another turned", x.mirror(1, 0, 1), -9);
        DUE.is(18, "with all", x.mirror(2, 2, 0), 0);
        DUE.is(18, "6-1, 1-3, 3-5 on itself", x.mirror(3, 3, 0), 4);
    }

    private static void refusedMirrors() {
        WheelOnWheel x = Due.with(5, 0, 2, 0, 1);
        DUE.is(18, "what 2", x.mirror(0, 0, 2), -2);
        DUE.is(18, "what -1", x.mirror(0, 0, -1), -2);
        DUE.is(18, "other ahead of what", x.mirror(0, 1, 2), -1);
        DUE.is(18, "one ahead of what", x.mirror(-1, 0, 2), -1);
    }

    private static void full() {
        int[] teeth = {3, 4, 5, 6, 7, 24, 59, 60};
        int[] due = {2, 2, 4, 2, 6, 8, 58, 16};
        for (int i = 0; i < teeth.length; i++) {
            DUE.is(19, "full() of " + teeth[i], Due.withRing(teeth[i]).full(), due[i]);
        }
        DUE.is(19, "whatever WHEELS there are", Due.with(7, 5, 3, 2, 4).full(), 6);
    }

    private static void odds() {
        WheelOnWheel x = Due.with(24, 0, 9, 0, 1);
        x.wheel(0, 5, 0, 0, 1);
        DUE.is(20, "odds(0, 0)", x.odds(0, 0), 1);
        DUE.is(20, "odds(0, 1)", x.odds(0, 1), 3);
        DUE.is(20, "all teeth", x.odds(1, 0), 1);
        DUE.is(20, "all teeth, below", x.odds(1, 1), 1);
        DUE.is(20, "part 2", x.odds(0, 2), Due.refusal(-2));
        DUE.is(20, "part -1", x.odds(0, -1), Due.refusal(-2));
        DUE.is(20, "WHEEL 2 ahead of part", x.odds(2, 2), Due.refusal(-1));
        WheelOnWheel y = Due.with(7, 2, 1, 2, 5);
        DUE.is(20, "five of seven", y.odds(0, 0), 5);
        DUE.is(20, "five of seven, below", y.odds(0, 1), 7);
    }
}
