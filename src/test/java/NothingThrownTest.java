import java.lang.reflect.InvocationTargetException;
import java.lang.reflect.Method;
import java.util.Arrays;
import java.util.Comparator;
import java.util.Random;

/** No call ever throws, whatever its numbers, behind the 512th call, too; the same calls have the same answers. */
public final class NothingThrownTest {
    private static final int[] NUMBERS = {Integer.MIN_VALUE, Integer.MIN_VALUE + 1, -2000, -14, -9, -2, -1, 0, 0, 0, 1, 1, 1,
        2, 2, 3, 3, 4, 5, 6, 7, 8, 9, 10, 11, 12, 20, 23, 24, 31, 32, 39, 40, 41, 48, 50, 59, 60, 61, 63, 64, 72, 73, 97,
        99, 100, 101, 103, 114, 119, 120, 255, 256, 9999, 10000, 1 << 16, 1 << 30, Integer.MAX_VALUE - 1, Integer.MAX_VALUE};
    private static final Due DUE = new Due("NothingThrownTest");

    public static void main(String[] args) throws IllegalAccessException {
        Method[] methods = Arrays.stream(WheelOnWheel.class.getDeclaredMethods())
            .filter(method -> java.lang.reflect.Modifier.isPublic(method.getModifiers())).toArray(Method[]::new);
        Arrays.sort(methods, Comparator.comparing(Method::getName));
        for (int seed = 0; seed < 100; seed++) {
            run(methods, seed);
        }
        DUE.close();
    }

    private static void run(Method[] methods, int seed) throws IllegalAccessException {
        Random random = new Random(seed);
        WheelOnWheel one = new WheelOnWheel();
        WheelOnWheel other = new WheelOnWheel();
        for (int i = 0; i < 3000; i++) {
            Method method = methods[random.nextInt(methods.length)];
            Object[] numbers = new Object[method.getParameterCount()];
            for (int k = 0; k < numbers.length; k++) {
                numbers[k] = random.nextInt(9) == 0 ? random.nextInt() : NUMBERS[random.nextInt(NUMBERS.length)];
            }
            String call = "seed " + seed + ": " + method.getName() + Arrays.toString(numbers);
            try {
                Object answer = method.invoke(one, numbers);
                DUE.holds(call + " twice", answer.equals(method.invoke(other, numbers)));
            } catch (InvocationTargetException thrown) {
                DUE.holds(call + " throws " + thrown.getCause(), false);
            }
        }
    }
}
