/** Compares answers with those that are due, and ends the test with exit code 1 if one was not. */
final class Due {
    static final long LONG_REFUSAL = 4000000000000000000L;

    private final String name;
    private int held;
    private int broken;

    Due(String name) {
        this.name = name;
    }

    /** A call of a promise has answered so; that other is due. */
    void is(int promise, String call, long got, long want) {
        if (got == want) {
            held++;
        } else {
            broken++;
            System.out.println(name + ": promise " + promise + ": " + call + " answered " + got + ", due is " + want);
        }
    }

    void holds(String what, boolean held) {
        is(0, what, held ? 1 : 0, 1);
    }

    void close() {
        System.out.println(name + ": " + held + " passed, " + broken + " failed");
        if (broken > 0 || held == 0) {
            System.exit(1);
        }
    }

    /** What a call with long answers says to refuse with a number. */
    static long refusal(int number) {
        return LONG_REFUSAL - number;
    }

    /** The letters of a text come, one by one: what sheet() answers to them. */
    static int sheet(WheelOnWheel x, String text) {
        for (int i = 0; i < text.length(); i++) {
            x.letter(text.charAt(i));
        }
        return x.sheet();
    }

    /** A LIST becomes a row of these numbers. */
    static void list(WheelOnWheel x, int list, int... numbers) {
        x.list(list, numbers.length);
        for (int i = 0; i < numbers.length; i++) {
            x.put(list, i, numbers[i]);
        }
    }

    static WheelOnWheel withRing(int teeth) {
        WheelOnWheel x = new WheelOnWheel();
        x.ring(teeth);
        return x;
    }

    /** A ring with one WHEEL of PACE 1. */
    static WheelOnWheel with(int teeth, int kind, int size, int figure, int tooth) {
        WheelOnWheel x = withRing(teeth);
        x.wheel(kind, size, figure, tooth, 1);
        return x;
    }
}
