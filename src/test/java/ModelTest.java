import java.lang.reflect.InvocationTargetException;
import java.lang.reflect.Method;
import java.util.ArrayList;
import java.util.Arrays;
import java.util.Comparator;
import java.util.List;
import java.util.Map;
import java.util.Random;
import java.util.TreeMap;

/** All promises: runs of chosen and of wild calls, each answered as the model answers it. */
public final class ModelTest {
    private static final int RUNS = 1500;
    private static final int CALLS = 512;
    /** What the end of a run and one step more may call. */
    private static final int OBSERVED = 320;
    private static final int[] WILD = {Integer.MIN_VALUE, Integer.MIN_VALUE + 1, -1000, -60, -2, -1, 0, 1, 2, 5, 6, 7, 9,
        10, 23, 24, 39, 40, 41, 59, 60, 61, 63, 64, 72, 99, 100, 101, 255, 256, 9999, Integer.MAX_VALUE - 1, Integer.MAX_VALUE};

    /** What the numbers of each call are, a letter for each: see number(). */
    private static final Map<String, String> ROLES = new TreeMap<>(Map.ofEntries(
        Map.entry("letter", "c"), Map.entry("sheet", ""), Map.entry("ring", "r"), Map.entry("wheel", "ksftp"),
        Map.entry("of", "wh"), Map.entry("change", "wvx"), Map.entry("puts", "wt"), Map.entry("next", "wt"),
        Map.entry("ratio", "wb"), Map.entry("wears", "t"), Map.entry("tooth", "tb"),
        Map.entry("drawing", "wh"), Map.entry("arc", "wi"), Map.entry("crosses", "wi"), Map.entry("behind", "wt"),
        Map.entry("between", "ww"), Map.entry("mirror", "wwb"), Map.entry("full", ""), Map.entry("odds", "wb"),
        Map.entry("touch", "STv"), Map.entry("meet", "Sb"), Map.entry("crowd", "STv"), Map.entry("roll", "wn"),
        Map.entry("inked", "v"), Map.entry("ahead", "t"),
        Map.entry("fits", "lkf"), Map.entry("kinds", "lwb"), Map.entry("drawnBy", "DD"), Map.entry("judge", "lw"),
        Map.entry("lots", "nzb"), Map.entry("list", "ln"), Map.entry("put", "lit"), Map.entry("look", "li"),
        Map.entry("lays", "liw"),
        Map.entry("undo", ""), Map.entry("image", ""), Map.entry("on", ""), Map.entry("count", "C")));

    private final Random random;
    private final WheelOnWheel x = new WheelOnWheel();
    private final Model model = new Model();
    private final List<String> calls = new ArrayList<>();
    private final List<String> names = new ArrayList<>(ROLES.keySet());
    private final Map<String, Method> methods = new TreeMap<>();
    private final Map<String, Method> modelMethods = new TreeMap<>();
    private boolean wrong;

    private ModelTest(long seed) {
        random = new Random(seed);
        for (Method method : WheelOnWheel.class.getDeclaredMethods()) {
            methods.put(method.getName(), method);
        }
        for (Method method : Model.class.getDeclaredMethods()) {
            if (ROLES.containsKey(method.getName())) {
                modelMethods.merge(method.getName(), method, ModelTest::withInts);
            }
        }
    }

    /** Of two methods of one name, the public one. */
    private static Method withInts(Method one, Method other) {
        return java.lang.reflect.Modifier.isPublic(one.getModifiers()) ? one : other;
    }

    public static void main(String[] args) throws ReflectiveOperationException {
        int runs = args.length > 0 ? Integer.parseInt(args[0]) : RUNS;
        long from = args.length > 1 ? Long.parseLong(args[1]) : 0;
        int held = 0;
        int broken = 0;
        for (int run = 0; run < runs && broken < 3; run++) {
            ModelTest test = new ModelTest(from + run);
            if (test.run()) {
                held++;
            } else {
                broken++;
                System.out.println("run " + (from + run) + ": " + test.shortened());
            }
        }
        System.out.println("ModelTest: " + held + " passed, " + broken + " failed");
        if (broken > 0) {
            System.exit(1);
        }
    }

    private String shortened() {
        return calls.stream().filter(c -> !c.startsWith("count")).toList().toString();
    }

    private boolean run() throws ReflectiveOperationException {
        if (random.nextInt(3) > 0) {
            call("ring", random.nextBoolean() ? 3 + random.nextInt(10) : 3 + random.nextInt(58));
        }
        for (int i = random.nextInt(7); i > 0; i--) {
            call("wheel", random.nextInt(6), 1 + random.nextInt(teeth() - 1), random.nextInt(10), random.nextInt(teeth()),
                1 + random.nextInt(9));
        }
        while (!wrong && calls.size() < CALLS - OBSERVED) {
            step();
        }
        observeAll();
        return !wrong;
    }

    private void step() throws ReflectiveOperationException {
        int die = random.nextInt(40);
        if (die == 0) {
            tellSheet();
        } else if (die == 1) {
            tellPath();
        } else if (die == 2) {
            tellDrawing();
        } else if (die == 3) {
            wearMany();
        } else {
            String name = names.get(random.nextInt(names.size()));
            boolean rare = name.equals("ring") || name.equals("on") || name.equals("sheet");
            if (!rare || random.nextInt(4) == 0) {
                String roles = ROLES.get(name);
                int[] numbers = new int[roles.length()];
                for (int i = 0; i < numbers.length; i++) {
                    numbers[i] = number(roles.charAt(i));
                }
                call(name, numbers);
            }
        }
    }

    private int teeth() {
        return x.count(1);
    }

    /** A number of a role: mostly one that is taken, now and then one beside it or a wild one. */
    private int number(char role) {
        if (random.nextInt(60) == 0) {
            return WILD[random.nextInt(WILD.length)];
        }
        int beside = random.nextInt(25) == 0 ? 1 : 0;
        switch (role) {
            case 'w': return random.nextInt(x.count(0) + 1 + beside) - beside;
            case 't': return random.nextInt(teeth() + 2 * beside) - beside;
            case 'k': return random.nextInt(6 + 2 * beside) - beside;
            case 's': return 1 - beside + random.nextInt(teeth() - 1 + 2 * beside);
            case 'f': return random.nextInt(10 + 2 * beside) - beside;
            case 'p': return 1 - beside + random.nextInt(9 + 2 * beside);
            case 'b': return random.nextInt(2 + 2 * beside) - beside;
            case 'v': return random.nextInt(4 + 2 * beside) - beside;
            case 'h': return random.nextInt(8 + 2 * beside) - beside;
            case 'x': return random.nextInt(random.nextBoolean() ? 11 : teeth() + 1);
            case 'i': return random.nextInt(random.nextBoolean() ? 6 : 45) - beside;
            case 'l': return random.nextInt(3 + 2 * beside) - beside;
            case 'n': return 1 - beside + random.nextInt(random.nextBoolean() ? 6 : 50);
            case 'S': return 1 - beside + random.nextInt((1 << x.count(0)) - 1 + 2 * beside + (x.count(0) == 0 ? 1 : 0));
            case 'T': return random.nextInt(random.nextBoolean() ? 12 : 100 + 2 * beside) - beside;
            case 'r': return random.nextBoolean() ? 3 + random.nextInt(58) : 2 + random.nextInt(12);
            case 'c': return random.nextInt(256 + 2 * beside) - beside;
            case 'C': return random.nextInt(18) - beside;
            case 'D': return random.nextInt(random.nextBoolean() ? 12 : 1000) - beside;
            default: return random.nextInt();
        }
    }

    private long call(String name, int... numbers) throws ReflectiveOperationException {
        calls.add(name + Arrays.toString(numbers));
        Object[] boxed = Arrays.stream(numbers).boxed().toArray();
        long got = ((Number) methods.get(name).invoke(x, boxed)).longValue();
        long due = modelAnswer(name, boxed);
        if (got != due) {
            wrong = true;
            System.out.println(calls.get(calls.size() - 1) + " answered " + got + ", due is " + due);
        }
        return got;
    }

    private long modelAnswer(String name, Object[] boxed) throws ReflectiveOperationException {
        try {
            return ((Number) modelMethods.get(name).invoke(model, boxed)).longValue();
        } catch (InvocationTargetException thrown) {
            if (thrown.getCause() instanceof Model.Refusal refusal) {
                if (refusal.number >= -6) {
                    model.refusals[-refusal.number]++;
                }
                boolean wide = methods.get(name).getReturnType() == long.class;
                return wide ? Due.refusal(refusal.number) : refusal.number;
            }
            throw thrown;
        }
    }

    private String digits(int number, int places) {
        String text = "00" + Math.floorMod(number, 100);
        return text.substring(text.length() - places);
    }

    private String statement() {
        switch (random.nextInt(7)) {
            case 0: return "r" + digits(number('r'), 2);
            case 1:
            case 2: return "w" + digits(number('k'), 1) + digits(number('s'), 2) + digits(number('f'), 1)
                + digits(number('t'), 2) + digits(number('p'), 1);
            case 3:
            case 4: return "x" + digits(number('t'), 2);
            case 5: return "a" + digits(number('w'), 1) + digits(number('t'), 2);
            default: return "g" + digits(number('w'), 1) + digits(number('n'), 2);
        }
    }

    private void tellSheet() throws ReflectiveOperationException {
        StringBuilder text = new StringBuilder();
        for (int i = random.nextInt(6); i >= 0; i--) {
            text.append(statement()).append(';');
        }
        if (random.nextInt(4) == 0) {
            text.setCharAt(random.nextInt(text.length()), "rwxag;0123456789/:Rz".charAt(random.nextInt(20)));
        } else if (random.nextInt(6) == 0) {
            text.setLength(random.nextInt(text.length()));
        }
        if (random.nextInt(5) > 0) {
            call("sheet");
        }
        for (int i = 0; i < text.length(); i++) {
            call("letter", text.charAt(i));
        }
        call("sheet");
    }

    /** A LIST tells teeth as a WHEEL goes, now and then with one otherwise. */
    private void tellPath() throws ReflectiveOperationException {
        int list = random.nextInt(3);
        int size = random.nextInt(5);
        int wheel = number('w');
        int tooth = number('t');
        call("list", list, size);
        for (int i = 0; i < size; i++) {
            call("put", list, i, random.nextInt(12) == 0 ? number('t') : tooth);
            tooth = (int) call("next", wheel, tooth);
        }
        for (int kind = 0; kind < 6; kind++) {
            call("fits", list, kind, number('f'));
        }
        call("kinds", list, wheel, 0);
        call("kinds", list, wheel, 1);
    }

    private void tellDrawing() throws ReflectiveOperationException {
        int list = random.nextInt(3);
        int wheel = number('w');
        call("list", list, random.nextInt(41));
        call("lays", list, 0, wheel);
        call("judge", list, wheel);
        call("put", list, random.nextInt(12), number('t'));
        call("judge", list, wheel);
        int cusps = (int) call("drawing", wheel, 2);
        int crossings = (int) call("drawing", wheel, 6);
        call("drawnBy", cusps, crossings);
    }

    private void wearMany() throws ReflectiveOperationException {
        if (random.nextBoolean()) {
            for (int i = random.nextInt(12); i > 0; i--) {
                call("wears", random.nextInt(teeth()));
            }
        } else if (teeth() < 14) {
            for (int t = 0; t < teeth(); t++) {
                if (x.tooth(t, 0) == 0 && random.nextInt(12) > 0) {
                    call("wears", t);
                }
            }
        }
    }

    private void observeAll() throws ReflectiveOperationException {
        for (int what = -1; what < 18 && !wrong; what++) {
            call("count", what);
        }
        for (int t = 0; t < teeth() && !wrong; t++) {
            call("tooth", t, 0);
            call("tooth", t, 1);
        }
        List<Integer> wheels = new ArrayList<>(List.of(0, 1, 2, 3, 4, 5));
        wheels.sort(Comparator.reverseOrder());
        for (int wheel : wheels) {
            for (int what = 0; what < 8 && !wrong; what++) {
                call("of", wheel, what);
                call("drawing", wheel, what);
            }
        }
    }
}
