import java.util.ArrayDeque;
import java.util.ArrayList;
import java.util.Collections;
import java.util.Comparator;
import java.util.Deque;
import java.util.HashMap;
import java.util.HashSet;
import java.util.List;
import java.util.Map;
import java.util.Set;
import java.util.TreeMap;
import java.util.TreeSet;
import java.util.function.Predicate;
import java.util.regex.Matcher;
import java.util.regex.Pattern;

/** The document written a second time, another way: slow, with exceptions, sets and sorting, to compare with. */
final class Model {
    /** What a refused call answers. */
    static final class Refusal extends RuntimeException {
        private static final long serialVersionUID = 1L;
        final int number;

        Refusal(int number) {
            super(null, null, false, false);
            this.number = number;
        }
    }

    /** KINDS as the document has them one under the other. */
    private static class Inner {
        int next(World w, int size, int figure, int t) {
            return (t + size) % w.r;
        }

        /** TURNS times SIZE. */
        int turns(int r, int size, int figure) {
            return r - size;
        }

        int side() {
            return 0;
        }

        int goes(int r, int t, int next) {
            return (next - t + r) % r;
        }
    }

    private static class Outer extends Inner {
        @Override int turns(int r, int size, int figure) {
            return r + size;
        }

        @Override int side() {
            return 1;
        }
    }

    private static class Slipping extends Inner {
        @Override int next(World w, int size, int figure, int t) {
            int next = super.next(w, size, figure, t);
            return t % (figure + 2) == 0 ? (next + figure) % w.r : next;
        }

        @Override int turns(int r, int size, int figure) {
            return super.turns(r, size, figure) - figure;
        }
    }

    private static class Backward extends Outer {
        @Override int next(World w, int size, int figure, int t) {
            return (t + w.r - size) % w.r;
        }

        @Override int turns(int r, int size, int figure) {
            return -super.turns(r, size, figure);
        }

        @Override int goes(int r, int t, int next) {
            return (t - next + r) % r;
        }
    }

    private static class Choosy extends Slipping {
        @Override int next(World w, int size, int figure, int t) {
            int from = super.next(w, size, figure, t);
            if (w.worn.size() == w.r) {
                return from;
            }
            int next = from;
            while (w.worn.contains(next)) {
                next = (next + 1) % w.r;
            }
            return next;
        }
    }

    private static class Twice extends Backward {
        @Override int next(World w, int size, int figure, int t) {
            return super.next(w, size, figure, super.next(w, size, figure, t));
        }

        @Override int turns(int r, int size, int figure) {
            return 2 * super.turns(r, size, figure);
        }
    }

    private static final List<Inner> KINDS =
        List.of(new Inner(), new Outer(), new Slipping(), new Backward(), new Choosy(), new Twice());

    private static final class Wheel {
        int kind;
        int size;
        int figure;
        int pace;
        int at;
        int rolled;

        Wheel(int kind, int size, int figure, int at, int pace) {
            this.kind = kind;
            this.size = size;
            this.figure = figure;
            this.at = at;
            this.pace = pace;
        }

        Wheel copy() {
            Wheel v = new Wheel(kind, size, figure, at, pace);
            v.rolled = rolled;
            return v;
        }

        int next(World w, int t) {
            return KINDS.get(kind).next(w, size, figure, t);
        }

        int side() {
            return KINDS.get(kind).side();
        }
    }

    private static final class World {
        int r = 24;
        Set<Integer> worn = new TreeSet<>();
        TreeMap<Integer, Integer> ink = new TreeMap<>();
        List<Wheel> wheels = new ArrayList<>();

        World copy() {
            World w = new World();
            w.r = r;
            w.worn = new TreeSet<>(worn);
            w.ink = new TreeMap<>(ink);
            for (Wheel wheel : wheels) {
                w.wheels.add(wheel.copy());
            }
            return w;
        }

        void ring(int n) {
            need(n >= 3, -4);
            need(n <= 60, -6);
            need(wheels.stream().allMatch(w -> w.size < n && w.at < n), -3);
            r = n;
            worn.clear();
            ink.clear();
        }

        void wheel(int kind, int size, int figure, int tooth, int pace) {
            need(kind >= 0 && kind <= 5, -2);
            need(size >= 1 && figure >= 0 && pace >= 1, -4);
            need(size <= r - 1 && figure <= 9 && pace <= 9 && wheels.size() < 6, -6);
            tooth(tooth);
            wheels.add(new Wheel(kind, size, figure, tooth, pace));
        }

        void tooth(int t) {
            need(t >= 0 && t <= r - 1, -1);
        }

        Wheel get(int wheel) {
            need(wheel >= 0 && wheel < wheels.size(), -1);
            return wheels.get(wheel);
        }

        void wear(int t) {
            tooth(t);
            if (!worn.remove(t)) {
                worn.add(t);
            }
        }

        void roll(int wheel, int n) {
            Wheel w = get(wheel);
            need(n >= 1, -4);
            need(n <= 40, -6);
            for (int i = 0; i < n; i++) {
                w.at = w.next(this, w.at);
                ink.merge(w.at, 1, (had, one) -> had == 9999 ? had : had + one);
                w.rolled += w.rolled == 9999 ? 0 : 1;
            }
        }
    }

    private record Arc(int begin, int end) {
        /** Whether just one of the other's ends is passed going up from the begin to the end. */
        boolean crosses(Arc o) {
            if (new HashSet<>(List.of(begin, end, o.begin, o.end)).size() < 4) {
                return false;
            }
            boolean first = within(o.begin);
            boolean second = within(o.end);
            return first ^ second;
        }

        private boolean within(int t) {
            for (int s = (begin + 1) % 60; s != end; s = (s + 1) % 60) {
                if (s == t) {
                    return true;
                }
            }
            return false;
        }
    }

    private record Touch(int tick, int tooth, int wheel) {
    }

    private static final Pattern SHEET =
        Pattern.compile("(r[0-9]{2};|w[0-9]{7};|x[0-9]{2};|a[0-9]{3};|g[0-9]{3};)+");

    private World world = new World();
    private World image;
    private final Deque<World> past = new ArrayDeque<>();
    private final StringBuilder letters = new StringBuilder();
    private final Map<Integer, List<Integer>> lists = new HashMap<>();
    final int[] refusals = new int[7];

    static void need(boolean held, int refusal) {
        if (!held) {
            throw new Refusal(refusal);
        }
    }

    private static void what(int what, int greatest) {
        need(what >= 0 && what <= greatest, -2);
    }

    private void keep() {
        past.push(world.copy());
        if (past.size() > 8) {
            past.removeLast();
        }
    }

    // ---- the ring, wheels

    public int letter(int c) {
        need(c >= 0, -4);
        need(c <= 255 && letters.length() < 72, -6);
        letters.append((char) c);
        return letters.length();
    }

    public int sheet() {
        String text = letters.toString();
        letters.setLength(0);
        for (int n = 1; n <= text.length(); n++) {
            Matcher matcher = SHEET.matcher(text.substring(0, n));
            if (!matcher.matches() && !matcher.hitEnd()) {
                return -1000 - (n - 1);
            }
        }
        if (!SHEET.matcher(text).matches()) {
            return -1000 - text.length();
        }
        World before = world.copy();
        int place = 0;
        int done = 0;
        for (String statement : text.split(";")) {
            try {
                statement(statement);
            } catch (Refusal refusal) {
                world = before;
                return -2000 - place;
            }
            place += statement.length() + 1;
            done++;
        }
        past.clear();
        return done;
    }

    private void statement(String s) {
        switch (s.charAt(0)) {
            case 'r' -> world.ring(number(s, 1, 3));
            case 'w' -> world.wheel(number(s, 1, 2), number(s, 2, 4), number(s, 4, 5), number(s, 5, 7), number(s, 7, 8));
            case 'x' -> world.wear(number(s, 1, 3));
            case 'a' -> {
                world.tooth(number(s, 2, 4));
                world.get(number(s, 1, 2)).at = number(s, 2, 4);
            }
            default -> world.roll(number(s, 1, 2), number(s, 2, 4));
        }
    }

    private static int number(String s, int from, int to) {
        return Integer.parseInt(s.substring(from, to));
    }

    public int ring(int n) {
        int had = world.r;
        world.ring(n);
        past.clear();
        return had;
    }

    public int wheel(int kind, int size, int figure, int tooth, int pace) {
        world.wheel(kind, size, figure, tooth, pace);
        past.clear();
        return world.wheels.size() - 1;
    }

    public int of(int wheel, int what) {
        Wheel w = world.get(wheel);
        what(what, 7);
        return List.of(w.kind, w.size, w.figure, w.pace, w.at, w.rolled, w.side(), w.next(world, w.at)).get(what);
    }

    public int change(int wheel, int what, int v) {
        Wheel w = world.get(wheel);
        need(what == 1 || what == 2 || what == 3, -2);
        need(v >= (what == 2 ? 0 : 1), -4);
        need(v <= (what == 1 ? world.r - 1 : 9), -6);
        past.clear();
        int was = of(wheel, what);
        switch (what) {
            case 1 -> w.size = v;
            case 2 -> w.figure = v;
            default -> w.pace = v;
        }
        return was;
    }

    public int puts(int wheel, int tooth) {
        Wheel w = world.get(wheel);
        world.tooth(tooth);
        keep();
        int was = w.at;
        w.at = tooth;
        return was;
    }

    public int next(int wheel, int tooth) {
        Wheel w = world.get(wheel);
        world.tooth(tooth);
        return w.next(world, tooth);
    }

    private static long fraction(long above, long below, int part) {
        for (long d = 2; d <= below; d++) {
            while (above % d == 0 && below % d == 0) {
                above /= d;
                below /= d;
            }
        }
        return part == 0 ? above : below;
    }

    public long ratio(int wheel, int part) {
        Wheel w = world.get(wheel);
        what(part, 1);
        return fraction(KINDS.get(w.kind).turns(world.r, w.size, w.figure), w.size, part);
    }

    public int wears(int tooth) {
        world.tooth(tooth);
        keep();
        world.wear(tooth);
        return world.worn.contains(tooth) ? 1 : 0;
    }

    public int tooth(int tooth, int what) {
        world.tooth(tooth);
        what(what, 1);
        return what == 0 ? world.worn.contains(tooth) ? 1 : 0 : world.ink.getOrDefault(tooth, 0);
    }

    // ---- drawings

    /** The teeth at which ARCS begin; behind the last one stands the tooth at which the next would begin. */
    private List<Integer> path(Wheel w) {
        List<Integer> path = new ArrayList<>();
        int t = w.at;
        while (!path.contains(t)) {
            path.add(t);
            t = w.next(world, t);
        }
        path.add(t);
        return path;
    }

    private List<Arc> arcs(Wheel w) {
        List<Integer> path = path(w);
        List<Arc> arcs = new ArrayList<>();
        for (int i = 0; i + 1 < path.size(); i++) {
            arcs.add(new Arc(path.get(i), path.get(i + 1)));
        }
        return arcs;
    }

    private static int crossed(Arc arc, List<Arc> others) {
        return (int) others.stream().filter(arc::crosses).count();
    }

    private static int crossings(List<Arc> arcs) {
        int all = 0;
        for (int i = 0; i < arcs.size(); i++) {
            all += crossed(arcs.get(i), arcs.subList(0, i));
        }
        return all;
    }

    public int drawing(int wheel, int what) {
        Wheel w = world.get(wheel);
        what(what, 7);
        List<Arc> arcs = arcs(w);
        List<Integer> path = path(w);
        int tail = path.indexOf(path.get(path.size() - 1));
        TreeSet<Integer> cusps = new TreeSet<>(path);
        return switch (what) {
            case 0 -> tail;
            case 1 -> arcs.size() - tail;
            case 2 -> cusps.size();
            case 3 -> rounds(w, arcs.subList(tail, arcs.size()));
            case 4 -> gap(cusps, false);
            case 5 -> gap(cusps, true);
            case 6 -> crossings(arcs);
            default -> most(arcs);
        };
    }

    private int rounds(Wheel w, List<Arc> cycle) {
        int all = cycle.stream().mapToInt(a -> KINDS.get(w.kind).goes(world.r, a.begin, a.end)).sum();
        if (all % world.r != 0) {
            throw new IllegalStateException("ROUNDS leave a rest");
        }
        return all / world.r;
    }

    private int gap(TreeSet<Integer> cusps, boolean from) {
        int widest = 0;
        int where = -1;
        for (int cusp : cusps) {
            Integer higher = cusps.higher(cusp);
            int gap = higher == null ? cusps.first() + world.r - cusp : higher - cusp;
            if (gap > widest) {
                widest = gap;
                where = cusp;
            }
        }
        return from ? where : widest;
    }

    private static int most(List<Arc> arcs) {
        int best = 0;
        for (int i = arcs.size() - 1; i >= 0; i--) {
            if (crossed(arcs.get(i), arcs) >= crossed(arcs.get(best), arcs)) {
                best = i;
            }
        }
        return best;
    }

    public int arc(int wheel, int i) {
        Wheel w = world.get(wheel);
        need(i >= 0, -4);
        List<Arc> arcs = arcs(w);
        return i < arcs.size() ? arcs.get(i).begin : -9;
    }

    public int crosses(int wheel, int i) {
        Wheel w = world.get(wheel);
        need(i >= 0, -4);
        List<Arc> arcs = arcs(w);
        return i < arcs.size() ? crossed(arcs.get(i), arcs) : -9;
    }

    public int behind(int wheel, int tooth) {
        Wheel w = world.get(wheel);
        world.tooth(tooth);
        TreeSet<Integer> cusps = new TreeSet<>(path(w));
        Integer cusp = cusps.ceiling(tooth);
        return cusp == null ? cusps.first() : cusp;
    }

    public int between(int one, int other) {
        Wheel w = world.get(one);
        Wheel v = world.get(other);
        return w.side() != v.side() ? 0 : arcs(w).stream().mapToInt(a -> crossed(a, arcs(v))).sum();
    }

    public int mirror(int one, int other, int what) {
        Wheel w = world.get(one);
        Wheel v = world.get(other);
        what(what, 1);
        Set<Set<Integer>> goal = told(arcs(v), 0, 1);
        for (int c = 0; c < world.r; c++) {
            if (w.side() == v.side() && told(arcs(w), c, what == 0 ? -1 : 1).equals(goal)) {
                return c;
            }
        }
        return -9;
    }

    private Set<Set<Integer>> told(List<Arc> arcs, int c, int sign) {
        Set<Set<Integer>> told = new HashSet<>();
        for (Arc arc : arcs) {
            Set<Integer> teeth = new HashSet<>();
            teeth.add(Math.floorMod(c + sign * arc.begin, world.r));
            teeth.add(Math.floorMod(c + sign * arc.end, world.r));
            told.add(teeth);
        }
        return told;
    }

    public int full() {
        int sizes = 0;
        for (int size = 1; size < world.r; size++) {
            sizes += arcs(new Wheel(0, size, 0, 0, 1)).size() == world.r ? 1 : 0;
        }
        return sizes;
    }

    public long odds(int wheel, int part) {
        Wheel w = world.get(wheel);
        what(part, 1);
        return fraction(arcs(w).size(), world.r, part);
    }

    // ---- touches, ink

    private void set(int set) {
        need(set >= 1 && set >> world.wheels.size() == 0, -1);
    }

    private List<Touch> touches(int set) {
        List<Touch> touches = new ArrayList<>();
        for (int i = 0; i < world.wheels.size(); i++) {
            Wheel w = world.wheels.get(i);
            int t = w.at;
            for (int n = 1; n <= 200 && (set & 1 << i) != 0; n++) {
                t = w.next(world, t);
                touches.add(new Touch(n * w.pace, t, i));
            }
        }
        touches.sort(Comparator.comparingInt(Touch::tick).thenComparingInt(Touch::tooth).thenComparingInt(Touch::wheel));
        return touches;
    }

    public int touch(int set, int i, int what) {
        set(set);
        need(i >= 0, -4);
        need(i <= 99, -6);
        what(what, 2);
        Touch touch = touches(set).get(i);
        return List.of(touch.tick, touch.tooth, touch.wheel).get(what);
    }

    public int meet(int set, int what) {
        set(set);
        what(what, 1);
        List<Touch> touches = touches(set);
        for (int i = 1; i < touches.size(); i++) {
            Touch one = touches.get(i - 1);
            Touch other = touches.get(i);
            if (one.tick == other.tick && one.tooth == other.tooth && one.tick <= 200) {
                return what == 0 ? one.tick : one.tooth;
            }
        }
        return -9;
    }

    public int crowd(int set, int n, int what) {
        set(set);
        need(n >= 0, -4);
        need(n <= 100, -6);
        what(what, 2);
        TreeMap<Integer, Integer> tally = new TreeMap<>();
        touches(set).subList(0, n).forEach(touch -> tally.merge(touch.tooth, 1, Integer::sum));
        int most = tally.values().stream().mapToInt(v -> v).max().orElse(0);
        return switch (what) {
            case 0 -> first(tally, v -> v == most);
            case 1 -> most;
            default -> (int) tally.values().stream().filter(v -> v == 1).count();
        };
    }

    private static int first(TreeMap<Integer, Integer> map, Predicate<Integer> is) {
        return map.keySet().stream().filter(key -> is.test(map.get(key))).findFirst().orElse(-9);
    }

    public int roll(int wheel, int n) {
        World before = world.copy();
        world.roll(wheel, n);
        past.push(before);
        if (past.size() > 8) {
            past.removeLast();
        }
        return world.get(wheel).at;
    }

    public int inked(int what) {
        what(what, 3);
        int most = world.ink.values().stream().mapToInt(v -> v).max().orElse(0);
        return switch (what) {
            case 0 -> world.ink.size();
            case 1 -> world.ink.isEmpty() ? -9 : world.ink.firstKey();
            case 2 -> world.ink.isEmpty() ? -9 : world.ink.lastKey();
            default -> first(world.ink, v -> v == most);
        };
    }

    public int ahead(int tooth) {
        world.tooth(tooth);
        Integer key = world.ink.ceilingKey(tooth);
        return key == null ? -9 : key;
    }

    // ---- what is told

    private static void listNumber(int list) {
        need(list >= 0 && list <= 2, -1);
    }

    private List<Integer> told(int list) {
        need(lists.containsKey(list), -11);
        return lists.get(list);
    }

    private List<Integer> toldTeeth(int list) {
        List<Integer> told = told(list);
        need(told.stream().allMatch(t -> t >= 0 && t < world.r), -3);
        return told;
    }

    private boolean leads(List<Integer> told, int kind, int size, int figure) {
        for (int i = 0; i + 1 < told.size(); i++) {
            if (KINDS.get(kind).next(world, size, figure, told.get(i)) != told.get(i + 1)) {
                return false;
            }
        }
        return true;
    }

    public long fits(int list, int kind, int figure) {
        listNumber(list);
        what(kind, 5);
        need(figure >= 0, -4);
        need(figure <= 9, -6);
        List<Integer> told = toldTeeth(list);
        long bits = 0;
        for (int size = world.r - 1; size >= 1; size--) {
            bits = bits * 2 + (leads(told, kind, size, figure) ? 1 : 0);
        }
        return bits * 2;
    }

    public int kinds(int list, int wheel, int what) {
        listNumber(list);
        Wheel w = world.get(wheel);
        what(what, 1);
        List<Integer> told = toldTeeth(list);
        int bits = 0;
        for (int i = what == 0 ? 5 : 9; i >= 0; i--) {
            boolean leads = what == 0 ? leads(told, i, w.size, w.figure) : leads(told, w.kind, w.size, i);
            bits = bits * 2 + (leads ? 1 : 0);
        }
        return bits;
    }

    public int drawnBy(int cusps, int crossings) {
        need(cusps >= 0 && crossings >= 0, -4);
        for (int size = 1; size < world.r; size++) {
            List<Arc> arcs = arcs(new Wheel(0, size, 0, 0, 1));
            if (arcs.size() == cusps && crossings(arcs) == crossings) {
                return size;
            }
        }
        return -9;
    }

    public int judge(int list, int wheel) {
        listNumber(list);
        Wheel w = world.get(wheel);
        List<Integer> told = told(list);
        List<Integer> begins = path(w);
        begins.remove(begins.size() - 1);
        for (int i = 0; i < told.size(); i++) {
            if (i >= begins.size() || !told.get(i).equals(begins.get(i))) {
                return i;
            }
        }
        return -9;
    }

    public int lots(int n, int z, int what) {
        need(n >= 1, -4);
        need(n <= 50, -6);
        what(what, 1);
        need(!world.wheels.isEmpty(), -3);
        World thought = world.copy();
        List<Integer> touched = new ArrayList<>();
        long seed = z;
        for (int i = 0; i < n; i++) {
            seed = (int) (seed * 1664525L + 1013904223L);
            Wheel w = thought.wheels.get((int) ((seed & 0x7fffffffL) / 256 % thought.wheels.size()));
            seed = (int) (seed * 1664525L + 1013904223L);
            long arcs = (seed & 0x7fffffffL) / 256 % 4 + 1;
            for (long k = 0; k < arcs; k++) {
                w.at = w.next(thought, w.at);
                touched.add(w.at);
            }
        }
        return what == 0 ? new HashSet<>(touched).size() : (int) touched.stream().filter(t -> t == 0).count();
    }

    public int list(int list, int n) {
        listNumber(list);
        need(n <= 40, -6);
        need(n >= 0, -14);
        lists.put(list, new ArrayList<>(Collections.nCopies(n, 0)));
        return 1;
    }

    private List<Integer> place(int list, int i) {
        List<Integer> told = told(list);
        need(i >= 0 && i < told.size(), -13);
        return told;
    }

    public int put(int list, int i, int v) {
        listNumber(list);
        place(list, i).set(i, v);
        return 1;
    }

    public long look(int list, int i) {
        listNumber(list);
        return place(list, i).get(i);
    }

    public int lays(int list, int i, int wheel) {
        listNumber(list);
        Wheel w = world.get(wheel);
        List<Integer> told = place(list, i);
        int laid = 0;
        for (Arc arc : arcs(w)) {
            if (i + laid < told.size()) {
                told.set(i + laid, arc.begin);
                laid++;
            }
        }
        return laid;
    }

    // ---- the image

    public int undo() {
        need(!past.isEmpty(), -3);
        world = past.pop();
        return past.size();
    }

    public int image() {
        image = world.copy();
        return image.wheels.size();
    }

    public int on() {
        need(image != null, -3);
        world = image.copy();
        past.clear();
        return world.wheels.size();
    }

    public int count(int what) {
        return switch (what) {
            case 0 -> world.wheels.size();
            case 1 -> world.r;
            case 2 -> world.ink.size();
            case 3 -> world.worn.size();
            case 4 -> world.ink.values().stream().mapToInt(v -> v).sum();
            case 5 -> letters.length();
            case 6 -> past.size();
            case 11, 12, 13, 14, 15, 16 -> refusals[what - 10];
            default -> -9;
        };
    }
}
