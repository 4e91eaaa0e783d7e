/** Edges of the document's part 4, its first half: letters, sheets, their faults. */
public final class EdgesOfSheetsTest {
    private static final Due DUE = new Due("EdgesOfSheetsTest");
    /** One STATEMENT of each letter, all as they must be behind one another. */
    private static final String[] STATEMENTS = {"r24;", "w0050024;", "x03;", "a007;", "g002;"};

    public static void main(String[] args) {
        letters0To255();
        lettersUpTo72();
        roomAgainBehindASheet();
        oneStatementOrMore();
        seventyTwoLetters();
        otherLettersAtEachPlace();
        signsBesideTheDigits();
        somethingLacks();
        formAheadOfSense();
        ringsOfASheet();
        kindsOfASheet();
        sizesOfASheet();
        figuresOfASheet();
        placesOfASheet();
        pacesOfASheet();
        wornTeethOfASheet();
        putsOfASheet();
        rollsOfASheet();
        noSuchWheelSoFar();
        aSeventhWheel();
        aRingThatCantBe();
        behindAllAheadOfIt();
        theFirstFaultOfSeveral();
        withAFaultNothing();
        withoutFaultAll();
        faultsAreNotCounted();
        DUE.close();
    }

    private static void comes(WheelOnWheel x, String text, int statements) {
        DUE.is(3, text, Due.sheet(x, text), statements);
        DUE.is(3, "letters are no more", x.count(5), 0);
    }

    private static void comes(String text, int statements) {
        comes(new WheelOnWheel(), text, statements);
    }

    private static void fault(WheelOnWheel x, String text, int due) {
        DUE.is(3, text, Due.sheet(x, text), due);
        DUE.is(3, "with a FAULT neither", x.count(5), 0);
    }

    /** On a new object a text has a FAULT of kind 1 at a place. */
    private static void form(String text, int place) {
        fault(new WheelOnWheel(), text, -1000 - place);
    }

    /** On a new object a text has a FAULT of kind 2 at a place. */
    private static void sense(String text, int place) {
        fault(new WheelOnWheel(), text, -2000 - place);
    }

    /** "A letter (0 .. 255) comes" */
    private static void letters0To255() {
        WheelOnWheel x = new WheelOnWheel();
        DUE.is(2, "letter(-1)", x.letter(-1), -4);
        DUE.is(2, "letter(least)", x.letter(Integer.MIN_VALUE), -4);
        DUE.is(2, "letter(256)", x.letter(256), -6);
        DUE.is(2, "letter(greatest)", x.letter(Integer.MAX_VALUE), -6);
        DUE.is(2, "none came", x.count(5), 0);
        DUE.is(2, "letter(0)", x.letter(0), 1);
        DUE.is(2, "letter(255)", x.letter(255), 2);
        DUE.is(39, "count(5)", x.count(5), 2);
    }

    /** "(255; 72, too)" */
    private static void lettersUpTo72() {
        WheelOnWheel x = new WheelOnWheel();
        for (int i = 1; i <= 72; i++) {
            DUE.is(2, "letter " + i, x.letter('x'), i);
        }
        DUE.is(2, "letter 73", x.letter('x'), -6);
        DUE.is(2, "letter(256) as the 73rd", x.letter(256), -6);
        DUE.is(2, "letter(-1) as the 73rd", x.letter(-1), -4);
        DUE.is(39, "count(5)", x.count(5), 72);
        DUE.is(39, "count(16)", x.count(16), 2);
    }

    /** "The letters become a SHEET, and are no more" */
    private static void roomAgainBehindASheet() {
        WheelOnWheel x = new WheelOnWheel();
        comes(x, "x00;".repeat(18), 18);
        DUE.is(2, "letter", x.letter('x'), 1);
        DUE.is(3, "one alone", x.sheet(), -1001);
        fault(x, "y".repeat(72), -1000);
        DUE.is(2, "letter", x.letter('x'), 1);
    }

    /** "STATEMENTS, one or more" */
    private static void oneStatementOrMore() {
        DUE.is(3, "no letters", new WheelOnWheel().sheet(), -1000);
        form(";", 0);
        for (String statement : STATEMENTS) {
            boolean needsWheel = statement.startsWith("a") || statement.startsWith("g");
            comes(needsWheel ? "w0050024;" + statement : statement, needsWheel ? 2 : 1);
        }
        comes("r24;w0050024;x03;a007;g002;", 5);
    }

    /** "(72 at most)" */
    private static void seventyTwoLetters() {
        comes("w0010001;".repeat(6) + "g501;g501;" + "x00;x23;", 10);
        form("x00;".repeat(17) + "x00x", 71);
        form("x00;".repeat(17) + "x00 ", 71);
        form("x00;".repeat(17) + "g001", 72);
        sense("x00;".repeat(17) + "x24;", 68);
    }

    /** "the place .. of the first letter with which no SHEET goes on": each letter of each STATEMENT is another once. */
    private static void otherLettersAtEachPlace() {
        for (String statement : STATEMENTS) {
            for (int i = 0; i < statement.length(); i++) {
                String ahead = statement.substring(0, i);
                String rest = statement.substring(i + 1);
                form(ahead + "y" + rest, i);
                form("x00;" + ahead + "y" + rest + "x00;", 4 + i);
                form(ahead + (i == 0 || i == statement.length() - 1 ? "0" : ";") + rest, i);
            }
            form(statement + ";", statement.length());
            form(statement + "0", statement.length());
            form(statement + statement.substring(1), statement.length());
        }
    }

    /** Digits are "0" to "9" alone, letters the five alone. */
    private static void signsBesideTheDigits() {
        form("r/0;", 1);
        form("r:0;", 1);
        form("r2/;", 2);
        form("r2:;", 2);
        comes("r09;", 1);
        comes("r30;", 1);
        String others = "RWXAGbcdefhijklmnopqstuvyz0123456789 ;:";
        for (int i = 0; i < others.length(); i++) {
            form(others.substring(i, i + 1) + "00;", 0);
        }
        char[] far = {0, 127, 128, 176, 255};
        for (char sign : far) {
            form(sign + "00;", 0);
            form("x" + sign + "0;", 1);
            form("x00" + sign, 3);
        }
    }

    /** "(the number of letters, if something lacks)" */
    private static void somethingLacks() {
        for (String statement : STATEMENTS) {
            for (int i = 0; i < statement.length(); i++) {
                form(statement.substring(0, i), i);
                if (i > 0) {
                    form("x00;" + statement.substring(0, i), 4 + i);
                }
            }
        }
    }

    /** "else kind 2": the form of all is ahead of the sense of the first. */
    private static void formAheadOfSense() {
        form("r02;y", 4);
        form("r02;r24", 7);
        form("a900;g900;x99;x", 15);
        sense("r02;r24;", 0);
    }

    /** "r" R (2 digits), 3 .. 60 */
    private static void ringsOfASheet() {
        String[] cannot = {"r00;", "r01;", "r02;", "r61;", "r99;"};
        for (String text : cannot) {
            sense(text, 0);
        }
        String[] can = {"r03;", "r04;", "r59;", "r60;"};
        int[] teeth = {3, 4, 59, 60};
        for (int i = 0; i < can.length; i++) {
            WheelOnWheel x = new WheelOnWheel();
            comes(x, can[i], 1);
            DUE.is(3, "R by " + can[i], x.count(1), teeth[i]);
        }
    }

    /** "w" KIND (a digit), 0 .. 5 */
    private static void kindsOfASheet() {
        for (int kind = 0; kind <= 9; kind++) {
            WheelOnWheel x = new WheelOnWheel();
            String text = "w" + kind + "010001;";
            if (kind <= 5) {
                comes(x, text, 1);
                DUE.is(3, "KIND by " + text, x.of(0, 0), kind);
            } else {
                fault(x, text, -2000);
            }
        }
    }

    /** SIZE (2 digits), 1 .. R less 1 */
    private static void sizesOfASheet() {
        sense("w0000001;", 0);
        sense("w0240001;", 0);
        sense("w0990001;", 0);
        comes("w0010001;w0230001;", 2);
        comes("r60;w0590001;", 2);
        sense("r60;w0600001;", 4);
        comes("r03;w0020001;", 2);
        sense("r03;w0030001;", 4);
    }

    /** FIGURE (a digit), 0 .. 9: all there are. */
    private static void figuresOfASheet() {
        for (int figure = 0; figure <= 9; figure++) {
            WheelOnWheel x = new WheelOnWheel();
            comes(x, "w201" + figure + "001;", 1);
            DUE.is(3, "FIGURE", x.of(0, 2), figure);
        }
    }

    /** AT (2 digits), 0 .. R less 1 */
    private static void placesOfASheet() {
        WheelOnWheel x = new WheelOnWheel();
        comes(x, "w0010001;w0010231;", 2);
        DUE.is(3, "AT of 0", x.of(0, 4), 0);
        DUE.is(3, "AT of 1", x.of(1, 4), 23);
        sense("w0010241;", 0);
        sense("w0010991;", 0);
        comes("r60;w0010591;", 2);
        sense("r60;w0010601;", 4);
    }

    /** PACE (a digit), 1 .. 9 */
    private static void pacesOfASheet() {
        sense("w0010000;", 0);
        for (int pace = 1; pace <= 9; pace++) {
            WheelOnWheel x = new WheelOnWheel();
            comes(x, "w001000" + pace + ";", 1);
            DUE.is(3, "PACE", x.of(0, 3), pace);
        }
    }

    /** "x" a tooth (2 digits): "WORN, or, if it is, not any more" */
    private static void wornTeethOfASheet() {
        WheelOnWheel x = new WheelOnWheel();
        comes(x, "x00;x23;", 2);
        DUE.is(3, "0 is WORN", x.tooth(0, 0), 1);
        DUE.is(3, "23 is WORN", x.tooth(23, 0), 1);
        comes(x, "x00;x05;x05;", 3);
        DUE.is(3, "0 isn't any more", x.tooth(0, 0), 0);
        DUE.is(3, "nor is 5", x.tooth(5, 0), 0);
        DUE.is(3, "23 is WORN", x.tooth(23, 0), 1);
        sense("x24;", 0);
        sense("x99;", 0);
        sense("r60;x60;", 4);
        comes("r60;x59;", 2);
    }

    /** "a" a WHEEL (a digit), a tooth (2 digits): "AT is that" */
    private static void putsOfASheet() {
        WheelOnWheel x = new WheelOnWheel();
        comes(x, "w0010051;a023;", 2);
        DUE.is(3, "AT", x.of(0, 4), 23);
        comes(x, "a000;", 1);
        DUE.is(3, "AT", x.of(0, 4), 0);
        sense("w0010051;a024;", 9);
        sense("w0010051;a100;", 9);
        sense("w0010051;a900;", 9);
        sense("a000;", 0);
        comes(x, "w0010001;".repeat(5) + "a522;", 6);
        DUE.is(3, "AT of WHEEL 5", x.of(5, 4), 22);
        fault(x, "a600;", -2000);
    }

    /** "g" a WHEEL (a digit), ARCS (2 digits; 1 .. 40): "ROLLED truly" */
    private static void rollsOfASheet() {
        WheelOnWheel x = new WheelOnWheel();
        comes(x, "w0010001;g001;", 2);
        DUE.is(3, "AT", x.of(0, 4), 1);
        comes(x, "g040;", 1);
        DUE.is(3, "AT", x.of(0, 4), 17);
        DUE.is(3, "ROLLED", x.of(0, 5), 41);
        DUE.is(3, "all INK", x.count(4), 41);
        fault(x, "g000;", -2000);
        fault(x, "g041;", -2000);
        fault(x, "g099;", -2000);
        fault(x, "g101;", -2000);
        DUE.is(3, "ROLLED still", x.of(0, 5), 41);
        sense("g001;", 0);
    }

    /** "no such WHEEL so far" */
    private static void noSuchWheelSoFar() {
        sense("a000;w0010001;", 0);
        sense("g001;w0010001;", 0);
        sense("w0010001;g101;w0010001;", 9);
        comes("w0010001;w0010001;g101;a000;", 4);
        WheelOnWheel x = new WheelOnWheel();
        x.wheel(0, 1, 0, 0, 1);
        comes(x, "g001;w0010001;g101;", 3);
        fault(x, "g201;w0010001;", -2000);
    }

    /** "a seventh WHEEL" */
    private static void aSeventhWheel() {
        sense("w0010001;".repeat(7), 54);
        comes("w0010001;".repeat(6), 6);
        WheelOnWheel x = new WheelOnWheel();
        for (int i = 0; i < 5; i++) {
            x.wheel(0, 1, 0, 0, 1);
        }
        fault(x, "w0010001;w0010001;", -2009);
        DUE.is(3, "WHEELS", x.count(0), 5);
        comes(x, "w0010001;", 1);
        fault(x, "w0010001;", -2000);
    }

    /** "a RING that can't be": a WHEEL's SIZE or AT isn't less. */
    private static void aRingThatCantBe() {
        comes("w0100001;r11;", 2);
        sense("w0100001;r10;", 9);
        comes("w0010101;r11;", 2);
        sense("w0010101;r10;", 9);
        WheelOnWheel x = Due.withRing(60);
        x.wheel(0, 20, 0, 0, 1);
        for (int i = 0; i < 4; i++) {
            x.wheel(0, 1, 0, 0, 1);
        }
        x.wheel(0, 1, 0, 30, 1);
        fault(x, "r20;", -2000);
        fault(x, "r30;", -2000);
        comes(x, "r31;", 1);
        fault(x, "a502;r20;", -2005);
        comes(x, "a502;r21;", 2);
    }

    /** "behind all ahead of it in the text, is not as it must be" */
    private static void behindAllAheadOfIt() {
        sense("r10;x10;", 4);
        comes("x10;r10;", 2);
        comes("r30;x29;w0290291;", 3);
        sense("r30;r24;x24;", 8);
        sense("w0050001;g003;r15;", 14);
        comes("w0050001;g003;r16;", 3);
        comes("w0010231;a005;r06;", 3);
        sense("w0010051;a023;r06;", 14);
        WheelOnWheel x = new WheelOnWheel();
        comes(x, "x07;w0010051;g005;r20;x03;g002;", 6);
        DUE.is(3, "WORN behind the ring alone", x.count(3), 1);
        DUE.is(3, "INK behind the ring alone", x.count(4), 2);
        DUE.is(3, "ROLLED", x.of(0, 5), 7);
        DUE.is(3, "AT", x.of(0, 4), 12);
    }

    /** "the first STATEMENT that .. is not as it must be" */
    private static void theFirstFaultOfSeveral() {
        sense("x00;x24;r02;g001;", 4);
        sense("g001;x24;", 0);
        form("x00;xx;xy;", 5);
    }

    /** "with one nothing": all is as it was, what can be UNDONE and THE IMAGE, too. */
    private static void withAFaultNothing() {
        String[] texts = {"", "y", "x01;x02;w0010001;g005;a007;r20", "r20;x01;x99;", "w0010001;g240;g201;a208;x08;x09;",
            "a000;a108;g040;x05;g999;", "w0010001;".repeat(5), "r09;r08;"};
        for (String text : texts) {
            WheelOnWheel x = Seen.some();
            WheelOnWheel y = Seen.some();
            // The letters that are there already become a FAULT in both.
            DUE.is(3, "letters of its own", x.sheet(), y.sheet());
            DUE.holds(text + " is a FAULT", Due.sheet(x, text) < 0);
            DUE.holds(text + " changes nothing", Seen.wholly(x).equals(Seen.wholly(y)));
        }
    }

    /** "Without FAULT all of it comes" */
    private static void withoutFaultAll() {
        WheelOnWheel x = new WheelOnWheel();
        x.wheel(0, 3, 0, 0, 1);
        x.roll(0, 2);
        x.image();
        comes(x, "r30;w1293299;x00;x29;a029;g001;g140;", 7);
        int[] due = {2, 30, 30, 2, 41, 0, 0};
        for (int what = 0; what < due.length; what++) {
            DUE.is(3, "count(" + what + ")", x.count(what), due[what]);
        }
        int[][] wheels = {{0, 3, 0, 1, 2, 3}, {1, 29, 3, 9, 19, 40}};
        for (int wheel = 0; wheel < 2; wheel++) {
            for (int what = 0; what < 6; what++) {
                DUE.is(3, "of(" + wheel + ", " + what + ")", x.of(wheel, what), wheels[wheel][what]);
            }
        }
        DUE.is(3, "THE IMAGE stays", x.on(), 1);
        DUE.is(3, "R of it", x.count(1), 24);
    }

    /** "the FAULT (not counted)" */
    private static void faultsAreNotCounted() {
        WheelOnWheel x = new WheelOnWheel();
        fault(x, "", -1000);
        fault(x, "x", -1001);
        fault(x, "x24;", -2000);
        fault(x, "g000;", -2000);
        fault(x, "r02;", -2000);
        fault(x, "r61;", -2000);
        fault(x, "w6010001;", -2000);
        fault(x, "w0240001;", -2000);
        fault(x, "w0010001;r01;", -2009);
        for (int what = 11; what <= 16; what++) {
            DUE.is(39, "count(" + what + ")", x.count(what), 0);
        }
    }
}
