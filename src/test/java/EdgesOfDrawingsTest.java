/** Edges of the document's part 2: drawings, which of their arcs cross, mirrors, how many have all teeth, odds. */
public final class EdgesOfDrawingsTest {
    private static final Due DUE = new Due("EdgesOfDrawingsTest");

    public static void main(String[] args) {
        arcsFromAtOn();
        arcsUpTo60();
        notSoManyArcs();
        tailOfNone();
        tailOfOne();
        roundsOfTheCycleAlone();
        gapOfOneCusp();
        gapRoundTheLastTooth();
        gapsAlikeTheLeast();
        behindItToo();
        behindRound();
        crossOfOneSide();
        crossFourUnlikeTeeth();
        crossAboveAndBelow();
        crossingsArePairs();
        mostOfSeveralTheLeast();
        mostOfNone();
        mostAtAnyPlace();
        betweenOneTwice();
        mirrorFrom0ToRLess1();
        mirrorTheLeast();
        mirrorWhicheverWayItGoes();
        mirrorThoseToldAlikeAreOne();
        mirrorNone();
        mirrorOfUnlikeSides();
        turnedFrom0ToRLess1();
        turnedTheLeast();
        fullFrom1ToRLess1();
        oddsOfOneAndOfAll();
        DUE.close();
    }

    private static void drawing(WheelOnWheel x, int... due) {
        for (int what = 0; what < due.length; what++) {
            DUE.is(13, "drawing(0, " + what + ")", x.drawing(0, what), due[what]);
        }
    }

    /** "ARCS from AT on ..; they are numbered from 0" */
    private static void arcsFromAtOn() {
        WheelOnWheel x = Due.with(24, 0, 1, 0, 23);
        DUE.is(14, "arc(0, 0)", x.arc(0, 0), 23);
        DUE.is(14, "arc(0, 1)", x.arc(0, 1), 0);
        DUE.is(14, "arc(0, 23)", x.arc(0, 23), 22);
        x.puts(0, 0);
        DUE.is(14, "arc(0, 0), AT 0", x.arc(0, 0), 0);
        x.roll(0, 1);
        DUE.is(14, "as it is now", x.arc(0, 0), 1);
    }

    /** "till one would begin at a tooth at which one began already": all 60 teeth at most. */
    private static void arcsUpTo60() {
        WheelOnWheel x = Due.with(60, 0, 7, 0, 59);
        drawing(x, 0, 60, 60, 7, 1, 0, 360, 0);
        DUE.is(14, "the last ARC", x.arc(0, 59), 52);
        DUE.is(15, "the last ARC", x.crosses(0, 59), 12);
        x.change(0, 1, 29);
        drawing(x, 0, 60, 60, 29, 1, 0, 60 * 28, 0);
        WheelOnWheel y = Due.with(3, 3, 1, 0, 0);
        drawing(y, 0, 3, 3, 1, 1, 0, 0, 0);
    }

    /** "-9 there are not so many", which is no REFUSAL. */
    private static void notSoManyArcs() {
        WheelOnWheel x = Due.with(5, 0, 2, 0, 0);
        DUE.is(14, "arc(0, 4)", x.arc(0, 4), 3);
        DUE.is(14, "arc(0, 5)", x.arc(0, 5), -9);
        DUE.is(14, "arc(0, greatest)", x.arc(0, Integer.MAX_VALUE), -9);
        DUE.is(14, "arc(0, -1)", x.arc(0, -1), -4);
        DUE.is(15, "crosses(0, 4)", x.crosses(0, 4), 2);
        DUE.is(15, "crosses(0, 5)", x.crosses(0, 5), -9);
        DUE.is(15, "crosses(0, greatest)", x.crosses(0, Integer.MAX_VALUE), -9);
        DUE.is(15, "crosses(0, -1)", x.crosses(0, -1), -4);
        WheelOnWheel y = Due.with(60, 0, 1, 0, 0);
        DUE.is(14, "arc(0, 60)", y.arc(0, 60), -9);
        DUE.is(15, "crosses(0, 60)", y.crosses(0, 60), -9);
        for (int what = 11; what <= 16; what++) {
            DUE.is(39, "count(" + what + ")", x.count(what), what == 14 ? 2 : 0);
        }
    }

    /** "TAIL: how many there are ahead of the one that begins at that tooth" */
    private static void tailOfNone() {
        WheelOnWheel x = Due.with(24, 5, 12, 0, 0);
        drawing(x, 0, 1, 1);
        x.change(0, 1, 6);
        drawing(x, 0, 2, 2);
    }

    /** "CYCLE: how many from that one on": 2 goes to 0, 0 slips round to 0. */
    private static void tailOfOne() {
        WheelOnWheel x = Due.with(24, 2, 22, 2, 2);
        drawing(x, 1, 1, 2);
        x.puts(0, 0);
        drawing(x, 0, 1, 1);
    }

    /** "ROUNDS: how many teeth the ARCS of CYCLE GO, together" */
    private static void roundsOfTheCycleAlone() {
        // SIZE 23 and FIGURE 1: 2-1, 1-0 go 46 teeth ahead of the CYCLE, 0-0, that goes none.
        drawing(Due.with(24, 2, 23, 1, 2), 2, 1, 3, 0);
        // SIZE 10 and FIGURE 4: 16-2 ahead of 2-12, 12-2, that go 24 teeth.
        drawing(Due.with(24, 2, 10, 4, 16), 1, 2, 3, 1);
    }

    /** "GAP: .. (R, if there is only one)" */
    private static void gapOfOneCusp() {
        int[] rings = {4, 24, 60};
        for (int r : rings) {
            WheelOnWheel x = Due.with(r, 5, r / 2, 0, r - 1);
            DUE.is(13, "GAP on " + r, x.drawing(0, 4), r);
            DUE.is(13, "from the last of " + r, x.drawing(0, 5), r - 1);
            x.puts(0, 0);
            DUE.is(13, "GAP on " + r, x.drawing(0, 4), r);
            DUE.is(13, "from the first of " + r, x.drawing(0, 5), 0);
        }
    }

    /** "the most teeth from a CUSP up to the next one": from the greatest CUSP round to the least. */
    private static void gapRoundTheLastTooth() {
        WheelOnWheel x = Due.with(24, 2, 22, 2, 2);
        DUE.is(13, "CUSPS 0, 2", x.drawing(0, 4), 22);
        DUE.is(13, "from 2", x.drawing(0, 5), 2);
        WheelOnWheel z = Due.with(24, 4, 1, 0, 0);
        for (int t = 2; t < 24; t++) {
            z.wears(t);
        }
        DUE.is(13, "CUSPS 0, 1", z.drawing(0, 4), 23);
        DUE.is(13, "from 1", z.drawing(0, 5), 1);
        // DOUBLE 1 on 24 from 1: all odd teeth; the last, 23, is 2 ahead of 1.
        WheelOnWheel y = Due.with(24, 5, 1, 0, 1);
        DUE.is(13, "all odd teeth", y.drawing(0, 4), 2);
        DUE.is(13, "from the least", y.drawing(0, 5), 1);
    }

    /** "the CUSP from which, of several the least" */
    private static void gapsAlikeTheLeast() {
        WheelOnWheel x = Due.with(24, 0, 12, 0, 23);
        DUE.is(13, "11 and 23", x.drawing(0, 4), 12);
        DUE.is(13, "from 11", x.drawing(0, 5), 11);
        WheelOnWheel y = Due.with(60, 0, 20, 0, 59);
        DUE.is(13, "19, 39 and 59", y.drawing(0, 4), 20);
        DUE.is(13, "from 19", y.drawing(0, 5), 19);
    }

    /** "the first CUSP from it on (it, too)" */
    private static void behindItToo() {
        WheelOnWheel x = Due.with(24, 0, 8, 0, 23);
        // CUSPS: 7, 15, 23.
        DUE.is(16, "behind(0, 7)", x.behind(0, 7), 7);
        DUE.is(16, "behind(0, 8)", x.behind(0, 8), 15);
        DUE.is(16, "behind(0, 6)", x.behind(0, 6), 7);
        DUE.is(16, "behind(0, 23)", x.behind(0, 23), 23);
        DUE.is(16, "behind(0, 22)", x.behind(0, 22), 23);
    }

    /** "upward, round" */
    private static void behindRound() {
        WheelOnWheel x = Due.with(60, 0, 20, 0, 4);
        // CUSPS: 4, 24, 44.
        DUE.is(16, "behind(0, 45)", x.behind(0, 45), 4);
        DUE.is(16, "behind(0, 59)", x.behind(0, 59), 4);
        DUE.is(16, "behind(0, 0)", x.behind(0, 0), 4);
        WheelOnWheel y = Due.with(60, 5, 30, 0, 17);
        DUE.is(16, "one alone, from itself", y.behind(0, 17), 17);
        DUE.is(16, "one alone, from 18", y.behind(0, 18), 17);
        DUE.is(16, "one alone, from 59", y.behind(0, 59), 17);
    }

    /** "Two ARCS of one SIDE CROSS": of each KIND there is a WHEEL that goes 0-2-0 and one that goes 1-3-1. */
    private static void crossOfOneSide() {
        for (int one = 0; one < 6; one++) {
            for (int other = 0; other < 6; other++) {
                WheelOnWheel x = Due.with(4, one, one == 5 ? 1 : 2, 0, 0);
                x.wheel(other, other == 5 ? 1 : 2, 0, 1, 1);
                boolean inside = one == 0 || one == 2 || one == 4;
                boolean otherInside = other == 0 || other == 2 || other == 4;
                DUE.is(6, "SIDE of KIND " + one, x.of(0, 6), inside ? 0 : 1);
                DUE.is(17, "KINDS " + one + ", " + other, x.between(0, 1), inside == otherInside ? 4 : 0);
            }
        }
    }

    /** "if the teeth of both .. are four unlike ones" */
    private static void crossFourUnlikeTeeth() {
        WheelOnWheel x = Due.with(24, 0, 12, 0, 0);
        DUE.is(13, "0-12 and 12-0", x.drawing(0, 6), 0);
        DUE.is(15, "0-12 with 12-0", x.crosses(0, 0), 0);
        x.wheel(2, 22, 2, 4, 1);
        x.wheel(0, 6, 0, 0, 1);
        DUE.is(17, "0-12-0 with 4-4", x.between(0, 1), 0);
        DUE.is(17, "4-4 with 0-12-0", x.between(1, 0), 0);
        DUE.is(17, "4-4 with itself", x.between(1, 1), 0);
        DUE.is(17, "0-12-0 with 0-6-12-18-0", x.between(0, 2), 0);
        WheelOnWheel y = Due.with(5, 0, 2, 0, 0);
        DUE.is(15, "0-2 with 1-3 and 4-1, not with 2-4 and 3-0", y.crosses(0, 0), 2);
    }

    /** A WHEEL that goes 5-17-5 and one that goes from one tooth to another and back: how often they CROSS. */
    private static int crossingsOf5And17With(int one, int other) {
        WheelOnWheel x = Due.with(24, 0, 12, 0, 5);
        for (int t = 0; t < 24; t++) {
            if (t != one && t != other) {
                x.wears(t);
            }
        }
        x.wheel(4, 1, 0, one, 1);
        DUE.is(9, "from " + one, x.next(1, one), other);
        DUE.is(9, "from " + other, x.next(1, other), one);
        DUE.is(17, "the other way", x.between(1, 0), x.between(0, 1));
        return x.between(0, 1);
    }

    /** "of the two teeth of the one just one is above the lesser and below the greater of the other's" */
    private static void crossAboveAndBelow() {
        int[][] teeth = {{6, 18}, {6, 16}, {16, 18}, {4, 6}, {4, 16}, {4, 18}, {18, 23}, {0, 4}, {0, 23}, {0, 11}, {11, 23},
            {5, 11}, {5, 18}, {11, 17}, {4, 17}, {5, 17}};
        int[] due = {4, 0, 4, 4, 4, 0, 0, 0, 0, 4, 4,
            0, 0, 0, 0, 0};
        for (int i = 0; i < teeth.length; i++) {
            String arcs = teeth[i][0] + "-" + teeth[i][1];
            DUE.is(17, "5-17 with " + arcs, crossingsOf5And17With(teeth[i][0], teeth[i][1]), due[i]);
        }
    }

    /** "CROSSINGS of a DRAWING: how many pairs of its ARCS CROSS" */
    private static void crossingsArePairs() {
        WheelOnWheel x = Due.with(5, 0, 2, 0, 0);
        DUE.is(13, "five ARCS, two for each", x.drawing(0, 6), 5);
        WheelOnWheel y = Due.with(4, 0, 1, 0, 0);
        DUE.is(13, "a square has none", y.drawing(0, 6), 0);
        // SLIPPING 1, FIGURE 2 on five teeth: 0-3, 3-4, 4-2, 2-3: only the first and the third CROSS.
        DUE.is(13, "one pair", Due.with(5, 2, 1, 2, 0).drawing(0, 6), 1);
    }

    /** "MOST: the ARC that CROSSES most others, of several the least" */
    private static void mostOfSeveralTheLeast() {
        WheelOnWheel x = Due.with(7, 0, 3, 0, 4);
        DUE.is(13, "all seven CROSS four", x.drawing(0, 7), 0);
        DUE.is(15, "the first", x.crosses(0, 0), 4);
        DUE.is(15, "the last", x.crosses(0, 6), 4);
    }

    /** MOST of ARCS that all CROSS none, or of one alone: the least of them. */
    private static void mostOfNone() {
        DUE.is(13, "a square", Due.with(4, 0, 1, 0, 3).drawing(0, 7), 0);
        DUE.is(13, "one ARC", Due.with(4, 5, 2, 0, 3).drawing(0, 7), 0);
    }

    private static void mostOf(WheelOnWheel x, int most, int... crossed) {
        for (int i = 0; i < crossed.length; i++) {
            DUE.is(15, "crosses(0, " + i + ")", x.crosses(0, i), crossed[i]);
        }
        DUE.is(13, "MOST", x.drawing(0, 7), most);
    }

    /** MOST where not all CROSS as many: it may be any of them, the first, the second, the last. */
    private static void mostAtAnyPlace() {
        // SLIPPING 2, FIGURE 1 on seven teeth: 1-3, 3-6, 6-2, 2-4, 4-6, the first as many as the fourth.
        mostOf(Due.with(7, 2, 2, 1, 1), 0, 2, 1, 1, 2, 0);
        // SLIPPING 3, FIGURE 5 on nine: 7-6, 6-0, 0-8, 8-2, 2-5, 5-8.
        mostOf(Due.with(9, 2, 3, 5, 7), 1, 0, 2, 0, 1, 0, 1);
        // SLIPPING 2, FIGURE 2 on seven: 2-4, 4-1, 1-3, 3-5, 5-0, 0-4.
        mostOf(Due.with(7, 2, 2, 2, 2), 3, 2, 1, 1, 3, 0, 1);
        // SLIPPING 3, FIGURE 3 on seven: 0-6, 6-2, 2-5, 5-4, 4-0.
        mostOf(Due.with(7, 2, 3, 3, 0), 4, 0, 1, 1, 0, 2);
    }

    /** "one twice, too: each ARC with each" */
    private static void betweenOneTwice() {
        WheelOnWheel x = Due.with(7, 0, 3, 0, 4);
        DUE.is(13, "pairs", x.drawing(0, 6), 14);
        DUE.is(17, "each with each", x.between(0, 0), 28);
        x.wheel(0, 3, 0, 1, 1);
        DUE.is(17, "another that goes the same ARCS", x.between(0, 1), 28);
        DUE.is(17, "one ARC with itself", Due.with(4, 5, 2, 0, 3).between(0, 0), 0);
    }

    /** On 24 teeth two WHEELS that stay where they are. */
    private static WheelOnWheel staying(int one, int other) {
        WheelOnWheel x = Due.with(24, 5, 12, 0, one);
        x.wheel(5, 12, 0, other, 1);
        return x;
    }

    /** "the least c (0 .. R less 1) such that .. a tooth t of them taken for c less t" */
    private static void mirrorFrom0ToRLess1() {
        DUE.is(18, "0 for 0", staying(0, 0).mirror(0, 1, 0), 0);
        DUE.is(18, "0 for 23", staying(0, 23).mirror(0, 1, 0), 23);
        DUE.is(18, "23 for 0", staying(23, 0).mirror(0, 1, 0), 23);
        DUE.is(18, "12 for 12", staying(12, 12).mirror(0, 1, 0), 0);
        DUE.is(18, "23 for 23", staying(23, 23).mirror(0, 1, 0), 22);
        DUE.is(18, "1 for 23", staying(1, 23).mirror(0, 1, 0), 0);
        DUE.is(18, "1 on itself", staying(1, 23).mirror(0, 0, 0), 2);
    }

    /** "the least c": 0-12-0 is its own mirror about 0 and 12. */
    private static void mirrorTheLeast() {
        WheelOnWheel x = Due.with(24, 0, 12, 0, 0);
        DUE.is(18, "0-12-0", x.mirror(0, 0, 0), 0);
        x.wheel(0, 12, 0, 23, 1);
        DUE.is(18, "0-12-0 for 11-23-11", x.mirror(0, 1, 0), 11);
        DUE.is(18, "11-23-11 for 0-12-0", x.mirror(1, 0, 0), 11);
        DUE.is(18, "11-23-11", x.mirror(1, 1, 0), 10);
    }

    /** "an ARC is told by its two teeth here, whichever way it goes" */
    private static void mirrorWhicheverWayItGoes() {
        WheelOnWheel x = Due.with(24, 0, 5, 0, 0);
        x.wheel(0, 19, 0, 7, 1);
        x.wheel(1, 5, 0, 0, 1);
        x.wheel(3, 5, 0, 7, 1);
        DUE.is(18, "up by 5 and by 19", x.mirror(0, 1, 0), 0);
        DUE.is(18, "turned", x.mirror(0, 1, 1), 0);
        DUE.is(18, "OUTER and BACKWARD", x.mirror(2, 3, 0), 0);
        DUE.is(18, "turned", x.mirror(2, 3, 1), 0);
    }

    /** "those told alike are one": 6-1, 1-3, 3-5, 5-3 and mirrored 5-3, 3-1, 1-6, 6-1 are told alike. */
    private static void mirrorThoseToldAlikeAreOne() {
        WheelOnWheel x = Due.with(7, 2, 2, 3, 6);
        int[] begins = {6, 1, 3, 5};
        for (int i = 0; i < begins.length; i++) {
            DUE.is(14, "arc(0, " + i + ")", x.arc(0, i), begins[i]);
        }
        DUE.is(13, "TAIL", x.drawing(0, 0), 2);
        DUE.is(18, "about 11 of 7", x.mirror(0, 0, 0), 4);
    }

    /** "-9 none" */
    private static void mirrorNone() {
        WheelOnWheel x = Due.with(24, 0, 12, 0, 0);
        x.wheel(0, 8, 0, 0, 1);
        x.wheel(2, 22, 2, 0, 1);
        x.wheel(2, 22, 2, 2, 1);
        DUE.is(18, "two and three CUSPS", x.mirror(0, 1, 0), -9);
        DUE.is(18, "three and two", x.mirror(1, 0, 0), -9);
        DUE.is(18, "two and three, turned", x.mirror(0, 1, 1), -9);
        DUE.is(18, "0-12-0 and 0-0", x.mirror(0, 2, 0), -9);
        DUE.is(18, "0-0 and 0-12-0", x.mirror(2, 0, 1), -9);
        DUE.is(18, "0-12-0 and 2-0-0", x.mirror(0, 3, 0), -9);
        DUE.is(18, "2-0-0 and 0-0", x.mirror(3, 2, 0), -9);
        DUE.is(18, "2-0-0 and 0-0, turned", x.mirror(3, 2, 1), -9);
        DUE.is(39, "that is no REFUSAL", x.count(12) + x.count(13), 0);
    }

    /** "-9 .. or their SIDES are unlike" */
    private static void mirrorOfUnlikeSides() {
        WheelOnWheel x = Due.with(24, 0, 8, 0, 0);
        x.wheel(1, 8, 0, 0, 1);
        for (int what = 0; what < 2; what++) {
            DUE.is(18, "INNER, OUTER", x.mirror(0, 1, what), -9);
            DUE.is(18, "OUTER, INNER", x.mirror(1, 0, what), -9);
            DUE.is(18, "OUTER, OUTER", x.mirror(1, 1, what), 0);
        }
        DUE.is(18, "what 2 is ahead of the SIDES", x.mirror(0, 1, 2), -2);
    }

    /** "TURNED: likewise, t taken for t plus c" */
    private static void turnedFrom0ToRLess1() {
        DUE.is(18, "0 for 0", staying(0, 0).mirror(0, 1, 1), 0);
        DUE.is(18, "0 for 23", staying(0, 23).mirror(0, 1, 1), 23);
        DUE.is(18, "23 for 0", staying(23, 0).mirror(0, 1, 1), 1);
        DUE.is(18, "1 for 0", staying(1, 0).mirror(0, 1, 1), 23);
        DUE.is(18, "23 for 23", staying(23, 23).mirror(0, 1, 1), 0);
    }

    /** The least c of several by which one is TURNED to the other. */
    private static void turnedTheLeast() {
        WheelOnWheel x = Due.with(24, 0, 8, 0, 7);
        x.wheel(0, 8, 0, 0, 1);
        DUE.is(18, "7-15-23 for 0-8-16", x.mirror(0, 1, 1), 1);
        DUE.is(18, "0-8-16 for 7-15-23", x.mirror(1, 0, 1), 7);
        DUE.is(18, "on itself", x.mirror(0, 0, 1), 0);
    }

    /** "FULL: how many SIZES (1 .. R less 1) there are" */
    private static void fullFrom1ToRLess1() {
        int[] teeth = {3, 4, 5, 6, 59, 60};
        int[] due = {2, 2, 4, 2, 58, 16};
        for (int i = 0; i < teeth.length; i++) {
            DUE.is(19, "full() of " + teeth[i], Due.withRing(teeth[i]).full(), due[i]);
        }
        DUE.is(19, "without a WHEEL", new WheelOnWheel().full(), 8);
    }

    /** "ODDS: how likely a tooth .. is a CUSP", in least terms */
    private static void oddsOfOneAndOfAll() {
        WheelOnWheel x = Due.with(60, 5, 30, 0, 0);
        DUE.is(20, "one of 60", x.odds(0, 0), 1);
        DUE.is(20, "one of 60, below", x.odds(0, 1), 60);
        x.change(0, 1, 1);
        DUE.is(20, "30 of 60", x.odds(0, 0), 1);
        DUE.is(20, "30 of 60, below", x.odds(0, 1), 2);
        WheelOnWheel y = Due.with(3, 0, 2, 0, 0);
        DUE.is(20, "all", y.odds(0, 0), 1);
        DUE.is(20, "all, below", y.odds(0, 1), 1);
    }
}
