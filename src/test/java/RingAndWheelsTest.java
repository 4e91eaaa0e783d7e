/** Promises 1 to 12: a new object, letters and sheets, the ring, wheels, their next teeth and turns. */
public final class RingAndWheelsTest {
    private static final Due DUE = new Due("RingAndWheelsTest");

    public static void main(String[] args) {
        newObject();
        letters();
        sheetsThatCome();
        sheetsOfWrongForm();
        sheetsOfWrongSense();
        faultsChangeNothing();
        rings();
        wheels();
        of();
        change();
        puts();
        next();
        choosyNext();
        ratio();
        wears();
        tooth();
        DUE.close();
    }

    private static void newObject() {
        WheelOnWheel x = new WheelOnWheel();
        for (int what = 0; what <= 20; what++) {
            long due = what == 1 ? 24 : what <= 6 || what >= 11 && what <= 16 ? 0 : -9;
            DUE.is(1, "count(" + what + ")", x.count(what), due);
        }
        DUE.is(1, "of(0, 0)", x.of(0, 0), -1);
        DUE.is(1, "tooth(23, 0)", x.tooth(23, 0), 0);
        DUE.is(1, "tooth(24, 0)", x.tooth(24, 0), -1);
        DUE.is(1, "look(0, 0)", x.look(0, 0), Due.refusal(-11));
        DUE.is(1, "on()", x.on(), -3);
        DUE.is(1, "undo()", x.undo(), -3);
    }

    private static void letters() {
        WheelOnWheel x = new WheelOnWheel();
        DUE.is(2, "letter(0)", x.letter(0), 1);
        DUE.is(2, "letter(255)", x.letter(255), 2);
        DUE.is(2, "letter(-1)", x.letter(-1), -4);
        DUE.is(2, "letter(256)", x.letter(256), -6);
        DUE.is(2, "count(5)", x.count(5), 2);
        for (int i = 3; i <= 72; i++) {
            DUE.is(2, "letter('r')", x.letter('r'), i);
        }
        DUE.is(2, "letter('r') of 72", x.letter('r'), -6);
        DUE.is(2, "letter(-1) of 72", x.letter(-1), -4);
        DUE.is(2, "count(5)", x.count(5), 72);
        DUE.is(2, "count(14)", x.count(14), 2);
        DUE.is(2, "count(16)", x.count(16), 2);
    }

    private static void sheetsThatCome() {
        WheelOnWheel x = new WheelOnWheel();
        DUE.is(3, "r w x a g", Due.sheet(x, "r12;w0051024;x03;a007;g002;"), 5);
        DUE.is(3, "letters", x.count(5), 0);
        DUE.is(3, "R", x.count(1), 12);
        int[] wheel = {0, 5, 1, 4, 5, 2, 0, 10};
        for (int what = 0; what < wheel.length; what++) {
            DUE.is(3, "of(0, " + what + ")", x.of(0, what), wheel[what]);
        }
        DUE.is(3, "WORN", x.tooth(3, 0), 1);
        DUE.is(3, "INK of the first tooth", x.tooth(0, 1), 1);
        DUE.is(3, "INK of the second tooth", x.tooth(5, 1), 1);
        DUE.is(3, "all INK", x.count(4), 2);
        DUE.is(3, "x twice", Due.sheet(x, "x05;x05;x03;"), 3);
        DUE.is(3, "WORN teeth", x.count(3), 0);
        DUE.is(3, "a ring more", Due.sheet(x, "x00;r60;"), 2);
        DUE.is(3, "WORN teeth of a new ring", x.count(3), 0);
        DUE.is(3, "INK of a new ring", x.count(4), 0);
        DUE.is(3, "greatest numbers", Due.sheet(x, "w5599599;g140;x59;a059;"), 4);
        DUE.is(3, "AT", x.of(0, 4), 59);
        DUE.is(3, "the least ring", Due.sheet(Due.withRing(9), "r03;w0010001;w1020021;g001;"), 4);
        DUE.is(3, "six wheels", Due.sheet(new WheelOnWheel(), "w0010001;".repeat(6)), 6);
        DUE.is(3, "72 letters", Due.sheet(new WheelOnWheel(), "x00;".repeat(18)), 18);
    }

    private static void sheetsOfWrongForm() {
        String[] texts = {"", "q", "r", "r1", "r12", "R12;", "r1a;", "r12;;", "r123;", "r12;q", "w0050024;q",
            "w005002;", "w00500245;", "g01;", "a0;", "x;", "r1/;", "r1:;", "x0000;", "g0100;", ";", "r12; ", "r99;q"};
        int[] places = {0, 0, 1, 2, 3, 0, 2, 4, 3, 4, 9,
            7, 8, 3, 2, 1, 2, 2, 3, 4, 0, 4, 4};
        for (int i = 0; i < texts.length; i++) {
            WheelOnWheel x = new WheelOnWheel();
            DUE.is(3, "sheet " + texts[i], Due.sheet(x, texts[i]), -1000 - places[i]);
            DUE.is(3, "letters behind " + texts[i], x.count(5), 0);
            DUE.is(3, "R behind " + texts[i], x.count(1), 24);
            DUE.is(3, "WHEELS behind " + texts[i], x.count(0), 0);
        }
        DUE.is(3, "72 letters that lack one", Due.sheet(new WheelOnWheel(), "x00;".repeat(17) + "x000"), -1071);
        DUE.is(3, "72 letters that lack two", Due.sheet(new WheelOnWheel(), "x00;".repeat(17) + "a000"), -1072);
    }

    private static void sheetsOfWrongSense() {
        String[] texts = {"r02;", "r61;", "w6010001;", "w0000001;", "w0240001;", "w0010241;", "w0010000;", "x24;",
            "a000;", "g001;", "x23;x24;", "w0010001;g000;", "w0010001;g041;", "w0010001;a024;", "w0010001;a100;",
            "w0010001;g101;", "w0100001;r10;", "w0010101;r10;", "r10;w0100001;", "r10;w0010101;", "r10;x10;",
            "x00;w0010001;r05;a005;", "w0010001;".repeat(7), "g001;w0010001;", "r02;r01;"};
        int[] places = {0, 0, 0, 0, 0, 0, 0, 0,
            0, 0, 4, 9, 9, 9, 9,
            9, 9, 9, 4, 4, 4,
            17, 54, 0, 0};
        for (int i = 0; i < texts.length; i++) {
            WheelOnWheel x = new WheelOnWheel();
            DUE.is(3, "sheet " + texts[i], Due.sheet(x, texts[i]), -2000 - places[i]);
            DUE.is(3, "R behind " + texts[i], x.count(1), 24);
            DUE.is(3, "WHEELS behind " + texts[i], x.count(0), 0);
            DUE.is(3, "WORN behind " + texts[i], x.count(3), 0);
        }
        DUE.is(3, "SIZE just less", Due.sheet(new WheelOnWheel(), "w0100101;r11;"), 2);
        DUE.is(3, "r's ring counts", Due.sheet(new WheelOnWheel(), "r60;x59;w0590591;"), 3);
    }

    private static void faultsChangeNothing() {
        WheelOnWheel x = new WheelOnWheel();
        x.wheel(0, 5, 0, 1, 2);
        x.roll(0, 3);
        DUE.is(3, "fault behind others", Due.sheet(x, "x05;w0050001;a009;g103;x99;"), -2023);
        DUE.is(3, "WHEELS", x.count(0), 1);
        DUE.is(3, "WORN", x.count(3), 0);
        DUE.is(3, "AT", x.of(0, 4), 16);
        DUE.is(3, "ROLLED", x.of(0, 5), 3);
        DUE.is(3, "all INK", x.count(4), 3);
        DUE.is(3, "what can be UNDONE", x.count(6), 1);
        for (int what = 11; what <= 16; what++) {
            DUE.is(3, "count(" + what + "), FAULTS are not counted", x.count(what), 0);
        }
        DUE.is(3, "no FAULT", Due.sheet(x, "x05;"), 1);
        DUE.is(3, "what can be UNDONE", x.count(6), 0);
    }

    private static void rings() {
        WheelOnWheel x = new WheelOnWheel();
        DUE.is(4, "ring(2)", x.ring(2), -4);
        DUE.is(4, "ring(61)", x.ring(61), -6);
        DUE.is(4, "ring(3)", x.ring(3), 24);
        DUE.is(4, "ring(60)", x.ring(60), 3);
        DUE.is(4, "count(1)", x.count(1), 60);
        DUE.is(4, "wheel()", x.wheel(0, 10, 0, 12, 1), 0);
        DUE.is(4, "wheel()", x.wheel(1, 13, 0, 3, 1), 1);
        x.wears(59);
        x.roll(0, 5);
        DUE.is(4, "ring(13), SIZE 13", x.ring(13), -3);
        DUE.is(4, "ring(2) ahead of STATE", x.ring(2), -4);
        DUE.is(4, "ring(61) ahead of STATE", x.ring(61), -6);
        DUE.is(4, "INK is there still", x.count(4), 5);
        DUE.is(4, "AT", x.of(0, 4), 2);
        x.puts(0, 14);
        DUE.is(4, "ring(14), AT 14", x.ring(14), -3);
        DUE.is(4, "count(6)", x.count(6), 3);
        DUE.is(4, "ring(15)", x.ring(15), 60);
        DUE.is(4, "none is UNDONE behind it", x.count(6), 0);
        DUE.is(4, "no INK", x.count(4), 0);
        DUE.is(4, "none WORN", x.count(3), 0);
        DUE.is(4, "ROLLED stays", x.of(0, 5), 5);
        x.wears(3);
        x.roll(0, 1);
        DUE.is(4, "ring(15) again", x.ring(15), 15);
        DUE.is(4, "no INK", x.count(4), 0);
        DUE.is(4, "none WORN", x.count(3), 0);
        x.ring(60);
        DUE.is(4, "no INK comes back", x.count(4), 0);
        DUE.is(4, "STATE counted", x.count(13), 2);
    }

    private static void wheels() {
        WheelOnWheel x = new WheelOnWheel();
        DUE.is(5, "KIND -1", x.wheel(-1, 0, 0, 0, 1), -2);
        DUE.is(5, "KIND 6 ahead of all", x.wheel(6, 0, 10, 24, 0), -2);
        DUE.is(5, "SIZE 0 ahead of FIGURE 10", x.wheel(0, 0, 10, 24, 10), -4);
        DUE.is(5, "FIGURE -1 ahead of SIZE 24", x.wheel(0, 24, -1, 24, 10), -4);
        DUE.is(5, "PACE 0 ahead of SIZE 24", x.wheel(0, 24, 0, 24, 0), -4);
        DUE.is(5, "SIZE 24 ahead of the tooth", x.wheel(0, 24, 0, 24, 1), -6);
        DUE.is(5, "FIGURE 10 ahead of the tooth", x.wheel(0, 1, 10, 24, 1), -6);
        DUE.is(5, "PACE 10 ahead of the tooth", x.wheel(0, 1, 0, 24, 10), -6);
        DUE.is(5, "tooth 24", x.wheel(0, 1, 0, 24, 1), -1);
        DUE.is(5, "tooth -1", x.wheel(0, 1, 0, -1, 1), -1);
        DUE.is(5, "no WHEEL came", x.count(0), 0);
        x.wears(0);
        DUE.is(5, "refused, what can be UNDONE stays", x.wheel(0, 1, 0, -1, 1), -1);
        DUE.is(5, "count(6)", x.count(6), 1);
        DUE.is(5, "the greatest", x.wheel(5, 23, 9, 23, 9), 0);
        DUE.is(5, "count(6)", x.count(6), 0);
        for (int i = 1; i < 6; i++) {
            DUE.is(5, "the least", x.wheel(i - 1, 1, 0, 0, 1), i);
        }
        DUE.is(5, "a seventh", x.wheel(0, 1, 0, 0, 1), -6);
        DUE.is(5, "a seventh, tooth 24", x.wheel(0, 1, 0, 24, 1), -6);
        DUE.is(5, "a seventh, SIZE 0", x.wheel(0, 0, 0, 0, 1), -4);
        DUE.is(5, "count(0)", x.count(0), 6);
        int[] refused = {3, 2, 0, 4, 0, 5};
        for (int i = 0; i < refused.length; i++) {
            DUE.is(5, "count(" + (11 + i) + ")", x.count(11 + i), refused[i]);
        }
        DUE.is(5, "SIZE 59 on 60 teeth", Due.withRing(60).wheel(0, 59, 0, 59, 1), 0);
    }

    private static void of() {
        WheelOnWheel x = new WheelOnWheel();
        x.wheel(2, 7, 3, 20, 4);
        int[] due = {2, 7, 3, 4, 20, 0, 0, 6};
        for (int what = 0; what < due.length; what++) {
            DUE.is(6, "of(0, " + what + ")", x.of(0, what), due[what]);
        }
        x.roll(0, 2);
        DUE.is(6, "AT", x.of(0, 4), 13);
        DUE.is(6, "ROLLED", x.of(0, 5), 2);
        DUE.is(6, "what 8", x.of(0, 8), -2);
        DUE.is(6, "what -1", x.of(0, -1), -2);
        DUE.is(6, "WHEEL 1 ahead of what", x.of(1, 8), -1);
        DUE.is(6, "WHEEL -1", x.of(-1, 0), -1);
        int[] sides = {0, 1, 0, 1, 0, 1};
        WheelOnWheel y = new WheelOnWheel();
        for (int kind = 0; kind < 6; kind++) {
            y.wheel(kind, 2, 0, 0, 1);
            DUE.is(6, "SIDE of KIND " + kind, y.of(kind, 6), sides[kind]);
            DUE.is(6, "KIND " + kind, y.of(kind, 0), kind);
        }
    }

    private static void change() {
        WheelOnWheel x = new WheelOnWheel();
        x.wheel(0, 7, 3, 20, 4);
        x.wears(1);
        DUE.is(7, "no such WHEEL", x.change(1, 9, 0), -1);
        DUE.is(7, "what 0", x.change(0, 0, 0), -2);
        DUE.is(7, "what 4", x.change(0, 4, 1), -2);
        DUE.is(7, "SIZE 0", x.change(0, 1, 0), -4);
        DUE.is(7, "SIZE 24", x.change(0, 1, 24), -6);
        DUE.is(7, "FIGURE -1", x.change(0, 2, -1), -4);
        DUE.is(7, "FIGURE 10", x.change(0, 2, 10), -6);
        DUE.is(7, "PACE 0", x.change(0, 3, 0), -4);
        DUE.is(7, "PACE 10", x.change(0, 3, 10), -6);
        DUE.is(7, "refused, what can be UNDONE stays", x.count(6), 1);
        DUE.is(7, "SIZE 23", x.change(0, 1, 23), 7);
        DUE.is(7, "none can be UNDONE", x.count(6), 0);
        DUE.is(7, "SIZE 1", x.change(0, 1, 1), 23);
        DUE.is(7, "FIGURE 9", x.change(0, 2, 9), 3);
        DUE.is(7, "FIGURE 0", x.change(0, 2, 0), 9);
        DUE.is(7, "PACE 9", x.change(0, 3, 9), 4);
        DUE.is(7, "PACE 1", x.change(0, 3, 1), 9);
        int[] due = {0, 1, 0, 1, 20, 0};
        for (int what = 0; what < due.length; what++) {
            DUE.is(7, "of(0, " + what + ")", x.of(0, what), due[what]);
        }
    }

    private static void puts() {
        WheelOnWheel x = new WheelOnWheel();
        x.wheel(0, 7, 3, 20, 4);
        DUE.is(8, "puts(0, 23)", x.puts(0, 23), 20);
        DUE.is(8, "puts(0, 0)", x.puts(0, 0), 23);
        DUE.is(8, "AT", x.of(0, 4), 0);
        DUE.is(8, "no INK", x.count(4), 0);
        DUE.is(8, "count(6)", x.count(6), 2);
        DUE.is(8, "tooth 24", x.puts(0, 24), -1);
        DUE.is(8, "tooth -1", x.puts(0, -1), -1);
        DUE.is(8, "WHEEL 1", x.puts(1, 0), -1);
        DUE.is(8, "AT", x.of(0, 4), 0);
        DUE.is(8, "count(6)", x.count(6), 2);
        DUE.is(8, "count(11)", x.count(11), 3);
    }

    private static void next() {
        WheelOnWheel x = new WheelOnWheel();
        for (int kind = 0; kind < 6; kind++) {
            x.wheel(kind, 7, 2, 0, 1);
        }
        // SLIPPING with FIGURE 2: two more on 0, 4, 8, 12, 16, 20.
        int[] teeth = {0, 1, 12, 20, 23};
        int[][] due = {
            {7, 8, 19, 3, 6}, {7, 8, 19, 3, 6}, {9, 8, 21, 5, 6}, {17, 18, 5, 13, 16}, {9, 8, 21, 5, 6}, {10, 11, 22, 6, 9}};
        for (int kind = 0; kind < 6; kind++) {
            for (int i = 0; i < teeth.length; i++) {
                DUE.is(9, "next(" + kind + ", " + teeth[i] + ")", x.next(kind, teeth[i]), due[kind][i]);
            }
        }
        DUE.is(9, "tooth 24", x.next(0, 24), -1);
        DUE.is(9, "tooth -1", x.next(0, -1), -1);
        DUE.is(9, "WHEEL 6", x.next(6, 0), -1);
        WheelOnWheel y = Due.withRing(3);
        y.wheel(2, 2, 9, 0, 1);
        y.wheel(5, 2, 0, 0, 1);
        DUE.is(9, "more than a ring", y.next(0, 0), 2);
        DUE.is(9, "no slip", y.next(0, 2), 1);
        DUE.is(9, "twice less than none", y.next(1, 0), 2);
        y.change(0, 2, 0);
        DUE.is(9, "FIGURE 0", y.next(0, 0), 2);
    }

    private static void choosyNext() {
        WheelOnWheel x = Due.withRing(5);
        x.wheel(4, 2, 1, 0, 1);
        DUE.is(9, "none WORN", x.next(0, 0), 3);
        x.wears(3);
        DUE.is(9, "3 WORN", x.next(0, 0), 4);
        x.wears(4);
        DUE.is(9, "3, 4 WORN", x.next(0, 0), 0);
        DUE.is(9, "3, 4 WORN, from 1", x.next(0, 1), 0);
        x.wears(0);
        x.wears(1);
        DUE.is(9, "all but 2 WORN", x.next(0, 0), 2);
        x.wears(2);
        DUE.is(9, "all WORN", x.next(0, 0), 3);
        DUE.is(9, "all WORN, from 2", x.next(0, 2), 4);
        x.wears(1);
        DUE.is(9, "all but 1 WORN", x.next(0, 2), 1);
    }

    private static void ratio() {
        WheelOnWheel x = new WheelOnWheel();
        for (int kind = 0; kind < 6; kind++) {
            x.wheel(kind, 9, 3, 0, 1);
        }
        int[] above = {5, 11, 4, -11, 4, -22};
        int[] below = {3, 3, 3, 3, 3, 3};
        for (int kind = 0; kind < 6; kind++) {
            DUE.is(10, "ratio(" + kind + ", 0)", x.ratio(kind, 0), above[kind]);
            DUE.is(10, "ratio(" + kind + ", 1)", x.ratio(kind, 1), below[kind]);
        }
        x.change(2, 1, 21);
        DUE.is(10, "0 above", x.ratio(2, 0), 0);
        DUE.is(10, "0 by 1", x.ratio(2, 1), 1);
        x.change(2, 1, 20);
        x.change(2, 2, 9);
        DUE.is(10, "below 0, above", x.ratio(2, 0), -1);
        DUE.is(10, "below 0, below", x.ratio(2, 1), 4);
        DUE.is(10, "part 2", x.ratio(0, 2), Due.refusal(-2));
        DUE.is(10, "part -1", x.ratio(0, -1), Due.refusal(-2));
        DUE.is(10, "WHEEL 6", x.ratio(6, 2), 4000000000000000001L);
        DUE.is(10, "count(11)", x.count(11), 1);
        DUE.is(10, "count(12)", x.count(12), 2);
    }

    private static void wears() {
        WheelOnWheel x = new WheelOnWheel();
        DUE.is(11, "wears(23)", x.wears(23), 1);
        DUE.is(11, "wears(0)", x.wears(0), 1);
        DUE.is(11, "count(3)", x.count(3), 2);
        DUE.is(11, "wears(23) again", x.wears(23), 0);
        DUE.is(11, "count(3)", x.count(3), 1);
        DUE.is(11, "count(6)", x.count(6), 3);
        DUE.is(11, "wears(24)", x.wears(24), -1);
        DUE.is(11, "wears(-1)", x.wears(-1), -1);
        DUE.is(11, "count(6)", x.count(6), 3);
    }

    private static void tooth() {
        WheelOnWheel x = new WheelOnWheel();
        x.wheel(5, 12, 0, 7, 1);
        x.roll(0, 40);
        x.wears(8);
        DUE.is(12, "WORN", x.tooth(8, 0), 1);
        DUE.is(12, "not WORN", x.tooth(7, 0), 0);
        DUE.is(12, "INK", x.tooth(7, 1), 40);
        DUE.is(12, "no INK", x.tooth(8, 1), 0);
        DUE.is(12, "what 2", x.tooth(8, 2), -2);
        DUE.is(12, "what -1", x.tooth(8, -1), -2);
        DUE.is(12, "tooth 24 ahead of what", x.tooth(24, 2), -1);
        DUE.is(12, "tooth -1", x.tooth(-1, 0), -1);
    }
}
