import java.util.ArrayList;
import java.util.Arrays;
import java.util.List;

/** What can be seen of an object, to tell whether two of them are alike. */
final class Seen {
    /** The letters of some(): with ";" behind they are a SHEET. */
    private static final String LETTERS = "x00;x05";

    private Seen() {
    }

    /** An object that has something of all that there is; all of it stays within reach of wholly(). */
    static WheelOnWheel some() {
        WheelOnWheel x = Due.withRing(9);
        x.wheel(0, 4, 0, 1, 2);
        x.roll(0, 2);
        x.image();
        x.wheel(4, 8, 3, 8, 9);
        Due.list(x, 0, 8, 0, 9);
        x.list(1, 0);
        for (int i = 0; i < LETTERS.length(); i++) {
            x.letter(LETTERS.charAt(i));
        }
        x.roll(0, 3);
        x.wears(5);
        return x;
    }

    /** How often each REFUSAL was: -1 to -6 at places 1 to 6. */
    static int[] refusals(WheelOnWheel x) {
        int[] refusals = new int[7];
        for (int i = 1; i <= 6; i++) {
            refusals[i] = x.count(10 + i);
        }
        return refusals;
    }

    /** All that calls tell which change nothing, but for REFUSALS. */
    static List<Long> plainly(WheelOnWheel x) {
        List<Long> seen = new ArrayList<>();
        for (int what = 0; what <= 6; what++) {
            seen.add((long) x.count(what));
        }
        for (int t = 0; t < x.count(1); t++) {
            seen.add((long) x.tooth(t, 0));
            seen.add((long) x.tooth(t, 1));
        }
        for (int wheel = 0; wheel < x.count(0); wheel++) {
            for (int what = 0; what <= 5; what++) {
                seen.add((long) x.of(wheel, what));
            }
        }
        for (int list = 0; list <= 2; list++) {
            addList(seen, x, list);
        }
        return seen;
    }

    private static void addList(List<Long> seen, WheelOnWheel x, int list) {
        long number = x.look(list, 0);
        for (int i = 0; i < 40 && number < Due.LONG_REFUSAL; i++) {
            seen.add(number);
            number = x.look(list, i + 1);
        }
        seen.add(number);
    }

    /** What is hidden, too: all is UNDONE, the letters are told, ON goes from the image. The object is used up by it. */
    static List<Long> wholly(WheelOnWheel x) {
        List<Long> seen = plainly(x);
        for (int i = 0; i < 8 && x.count(6) > 0; i++) {
            seen.add((long) x.undo());
            seen.addAll(plainly(x));
        }
        x.letter(';');
        seen.add((long) x.sheet());
        seen.addAll(plainly(x));
        seen.add((long) x.on());
        seen.addAll(plainly(x));
        return seen;
    }

    /** Calls a method of the face by its name. */
    static long call(WheelOnWheel x, String name, int... numbers) {
        Class<?>[] types = new Class<?>[numbers.length];
        Arrays.fill(types, int.class);
        try {
            Object answer = WheelOnWheel.class.getMethod(name, types).invoke(x, Arrays.stream(numbers).boxed().toArray());
            return ((Number) answer).longValue();
        } catch (ReflectiveOperationException wrong) {
            throw new IllegalStateException(told(name, numbers), wrong);
        }
    }

    static String told(String name, int... numbers) {
        return name + Arrays.toString(numbers).replace('[', '(').replace(']', ')');
    }
}
