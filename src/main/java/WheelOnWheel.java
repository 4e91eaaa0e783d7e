import java.util.Arrays;

/** Wheels that roll on a ring of teeth. README.md says how to use it; the document, what each call answers. */
public final class WheelOnWheel {
    private static final int LEAST_TEETH = 3;
    private static final int MOST_TEETH = 60;
    private static final int TEETH_AT_FIRST = 24;
    private static final int MOST_WHEELS = 6;
    private static final int MOST_FIGURE = 9;
    private static final int MOST_PACE = 9;
    private static final int MOST_ROLLS = 40;
    private static final int GREATEST_TALLY = 9999;
    private static final int MOST_LETTERS = 72;
    private static final int GREATEST_LETTER = 255;
    private static final int MOST_TOUCHES = 100;
    private static final int LAST_MEETING_TICK = 200;
    private static final int MOST_LOTS = 50;
    private static final int MOST_ARCS_A_LOT = 4;
    private static final int MOST_LISTS = 3;
    private static final int MOST_PLACES = 40;
    private static final int MOST_UNDONE = 8;

    private static final int INNER = 0;
    private static final int OUTER = 1;
    private static final int SLIPPING = 2;
    private static final int BACKWARD = 3;
    private static final int CHOOSY = 4;
    private static final int DOUBLE = 5;
    private static final int KINDS = 6;

    private static final int NOBODY = -1;
    private static final int OTHER = -2;
    private static final int STATE = -3;
    private static final int BELOW = -4;
    private static final int ROOM = -6;
    private static final int NONE = -9;
    private static final int MISSING = -11;
    private static final int NO_PLACE = -13;
    private static final int SIZE_BELOW = -14;
    private static final int COUNTED_REFUSALS = 6;
    private static final long LONG_REFUSAL = 4000000000000000000L;
    private static final int FORM_FAULT = -1000;
    private static final int SENSE_FAULT = -2000;

    private final Ring now = new Ring();
    private final Ring saved = new Ring();
    private final Ring imaged = new Ring();
    private boolean hasImage;
    private final Past past = new Past();
    private final Letters letters = new Letters();
    private final Row[] rows = new Row[MOST_LISTS];
    private final Drawing first = new Drawing();
    private final Drawing second = new Drawing();
    private final Thought thought = new Thought();
    private final Wheel trial = new Wheel();
    private final int[] refused = new int[COUNTED_REFUSALS + 1];

    public WheelOnWheel() {
        for (int i = 0; i < MOST_LISTS; i++) {
            rows[i] = new Row();
        }
    }

    // ---- the ring, wheels

    public int letter(int c) {
        if (c < 0) {
            return refuse(BELOW);
        }
        if (c > GREATEST_LETTER || letters.size >= MOST_LETTERS) {
            return refuse(ROOM);
        }
        letters.append(c);
        return letters.size;
    }

    public int sheet() {
        int misplaced = letters.firstMisplaced();
        int answer = misplaced == NONE ? 0 : FORM_FAULT - misplaced;
        saved.become(now);
        for (int place = 0; place < letters.size && answer >= 0; place++) {
            if (letters.beginsStatement(place)) {
                answer = letters.comesTrue(place, now) ? answer + 1 : SENSE_FAULT - place;
            }
        }
        letters.size = 0;
        if (answer < 0) {
            now.become(saved);
        } else {
            past.forget();
        }
        return answer;
    }

    public int ring(int n) {
        if (n < LEAST_TEETH) {
            return refuse(BELOW);
        }
        if (n > MOST_TEETH) {
            return refuse(ROOM);
        }
        if (!now.canHave(n)) {
            return refuse(STATE);
        }
        int had = now.teeth;
        now.renew(n);
        past.forget();
        return had;
    }

    public int wheel(int kind, int size, int figure, int tooth, int pace) {
        int refusal = now.refusalOfWheel(kind, size, figure, tooth, pace);
        if (refusal != 0) {
            return refuse(refusal);
        }
        now.addWheel(kind, size, figure, tooth, pace);
        past.forget();
        return now.wheelCount - 1;
    }

    public int of(int wheel, int what) {
        Wheel w = now.wheelAt(wheel);
        if (w == null) {
            return refuse(NOBODY);
        }
        switch (what) {
            case 0:
                return w.kind;
            case 1:
                return w.size;
            case 2:
                return w.figure;
            case 3:
                return w.pace;
            case 4:
                return w.at;
            case 5:
                return w.rolled;
            case 6:
                return w.side();
            case 7:
                return now.nextBy(w, w.at);
            default:
                return refuse(OTHER);
        }
    }

    public int change(int wheel, int what, int v) {
        Wheel w = now.wheelAt(wheel);
        if (w == null) {
            return refuse(NOBODY);
        }
        if (what < 1 || what > 3) {
            return refuse(OTHER);
        }
        int least = what == 2 ? 0 : 1;
        int greatest = what == 1 ? now.teeth - 1 : what == 2 ? MOST_FIGURE : MOST_PACE;
        if (v < least) {
            return refuse(BELOW);
        }
        if (v > greatest) {
            return refuse(ROOM);
        }
        past.forget();
        return w.exchange(what, v);
    }

    public int puts(int wheel, int tooth) {
        Wheel w = now.wheelAt(wheel);
        if (w == null || !now.isTooth(tooth)) {
            return refuse(NOBODY);
        }
        past.keep(now);
        int was = w.at;
        w.at = tooth;
        return was;
    }

    public int next(int wheel, int tooth) {
        Wheel w = now.wheelAt(wheel);
        if (w == null || !now.isTooth(tooth)) {
            return refuse(NOBODY);
        }
        return now.nextBy(w, tooth);
    }

    public long ratio(int wheel, int part) {
        Wheel w = now.wheelAt(wheel);
        if (w == null) {
            return refuseLong(NOBODY);
        }
        if (!isOneOfTwo(part)) {
            return refuseLong(OTHER);
        }
        return Numbers.partOf(w.turnsTimesSize(now.teeth), w.size, part);
    }

    public int wears(int tooth) {
        if (!now.isTooth(tooth)) {
            return refuse(NOBODY);
        }
        past.keep(now);
        now.wearOrMend(tooth);
        return now.worn[tooth];
    }

    public int tooth(int tooth, int what) {
        if (!now.isTooth(tooth)) {
            return refuse(NOBODY);
        }
        if (!isOneOfTwo(what)) {
            return refuse(OTHER);
        }
        return what == 0 ? now.worn[tooth] : now.ink[tooth];
    }

    // ---- drawings

    public int drawing(int wheel, int what) {
        Wheel w = now.wheelAt(wheel);
        if (w == null) {
            return refuse(NOBODY);
        }
        if (what < 0 || what > 7) {
            return refuse(OTHER);
        }
        first.trace(now, w);
        switch (what) {
            case 0:
                return first.tail;
            case 1:
                return first.arcs - first.tail;
            case 2:
                return first.arcs;
            case 3:
                return first.rounds();
            case 4:
                return first.gapAbove(first.cuspOfGap());
            case 5:
                return first.cuspOfGap();
            case 6:
                return first.crossings();
            default:
                return first.mostCrossing();
        }
    }

    public int arc(int wheel, int i) {
        Wheel w = now.wheelAt(wheel);
        if (w == null) {
            return refuse(NOBODY);
        }
        if (i < 0) {
            return refuse(BELOW);
        }
        first.trace(now, w);
        return first.hasArc(i) ? first.begins[i] : NONE;
    }

    public int crosses(int wheel, int i) {
        Wheel w = now.wheelAt(wheel);
        if (w == null) {
            return refuse(NOBODY);
        }
        if (i < 0) {
            return refuse(BELOW);
        }
        first.trace(now, w);
        return first.hasArc(i) ? first.crossedBy(first, i) : NONE;
    }

    public int behind(int wheel, int tooth) {
        Wheel w = now.wheelAt(wheel);
        if (w == null || !now.isTooth(tooth)) {
            return refuse(NOBODY);
        }
        first.trace(now, w);
        return first.cuspFrom(tooth);
    }

    public int between(int one, int other) {
        if (!tracesBoth(one, other)) {
            return refuse(NOBODY);
        }
        return first.crossingsWith(second);
    }

    public int mirror(int one, int other, int what) {
        if (!tracesBoth(one, other)) {
            return refuse(NOBODY);
        }
        if (!isOneOfTwo(what)) {
            return refuse(OTHER);
        }
        return first.shiftOnto(second, what == 0 ? -1 : 1);
    }

    public int full() {
        int sizes = 0;
        for (int size = 1; size < now.teeth; size++) {
            traceTrial(size);
            if (first.arcs == now.teeth) {
                sizes++;
            }
        }
        return sizes;
    }

    public long odds(int wheel, int part) {
        Wheel w = now.wheelAt(wheel);
        if (w == null) {
            return refuseLong(NOBODY);
        }
        if (!isOneOfTwo(part)) {
            return refuseLong(OTHER);
        }
        first.trace(now, w);
        return Numbers.partOf(first.arcs, now.teeth, part);
    }

    // ---- touches, ink

    public int touch(int set, int i, int what) {
        if (!now.isSet(set)) {
            return refuse(NOBODY);
        }
        if (i < 0) {
            return refuse(BELOW);
        }
        if (i >= MOST_TOUCHES) {
            return refuse(ROOM);
        }
        if (what < 0 || what > 2) {
            return refuse(OTHER);
        }
        thought.follow(now, set, i + 1);
        if (what == 0) {
            return thought.ticks[i];
        }
        return what == 1 ? thought.touched[i] : thought.touchers[i];
    }

    public int meet(int set, int what) {
        if (!now.isSet(set)) {
            return refuse(NOBODY);
        }
        if (!isOneOfTwo(what)) {
            return refuse(OTHER);
        }
        thought.begin(now);
        for (int tick = 1; tick <= LAST_MEETING_TICK; tick++) {
            thought.passTick(now, set, tick);
            int tooth = thought.meetingTooth();
            if (tooth != NONE) {
                return what == 0 ? tick : tooth;
            }
        }
        return NONE;
    }

    public int crowd(int set, int n, int what) {
        if (!now.isSet(set)) {
            return refuse(NOBODY);
        }
        if (n < 0) {
            return refuse(BELOW);
        }
        if (n > MOST_TOUCHES) {
            return refuse(ROOM);
        }
        if (what < 0 || what > 2) {
            return refuse(OTHER);
        }
        thought.follow(now, set, n);
        thought.tallyFirst(n);
        if (what == 2) {
            return Numbers.placesOf(1, thought.tally, now.teeth);
        }
        int crowded = Numbers.placeOfMost(thought.tally, now.teeth);
        if (what == 1) {
            return thought.tally[crowded];
        }
        return n == 0 ? NONE : crowded;
    }

    public int roll(int wheel, int n) {
        Wheel w = now.wheelAt(wheel);
        if (w == null) {
            return refuse(NOBODY);
        }
        if (n < 1) {
            return refuse(BELOW);
        }
        if (n > MOST_ROLLS) {
            return refuse(ROOM);
        }
        past.keep(now);
        now.rollTruly(w, n);
        return w.at;
    }

    public int inked(int what) {
        switch (what) {
            case 0:
                return now.inkedTeeth();
            case 1:
                return now.inkedFrom(0);
            case 2:
                return now.lastInked();
            case 3:
                return now.blot();
            default:
                return refuse(OTHER);
        }
    }

    public int ahead(int tooth) {
        if (!now.isTooth(tooth)) {
            return refuse(NOBODY);
        }
        return now.inkedFrom(tooth);
    }

    // ---- what is told

    public long fits(int list, int kind, int figure) {
        Row row = rowAt(list);
        if (row == null) {
            return refuseLong(NOBODY);
        }
        if (kind < 0 || kind >= KINDS) {
            return refuseLong(OTHER);
        }
        if (figure < 0) {
            return refuseLong(BELOW);
        }
        if (figure > MOST_FIGURE) {
            return refuseLong(ROOM);
        }
        if (row.isMissing()) {
            return refuseLong(MISSING);
        }
        if (!now.tellsTeeth(row)) {
            return refuseLong(STATE);
        }
        long sizes = 0;
        for (int size = 1; size < now.teeth; size++) {
            trial.set(kind, size, figure, 0, 1);
            if (now.leads(row, trial)) {
                sizes |= 1L << size;
            }
        }
        return sizes;
    }

    public int kinds(int list, int wheel, int what) {
        Row row = rowAt(list);
        Wheel w = now.wheelAt(wheel);
        if (row == null || w == null) {
            return refuse(NOBODY);
        }
        if (!isOneOfTwo(what)) {
            return refuse(OTHER);
        }
        if (row.isMissing()) {
            return refuse(MISSING);
        }
        if (!now.tellsTeeth(row)) {
            return refuse(STATE);
        }
        return what == 0 ? kindsThatLead(row, w) : figuresThatLead(row, w);
    }

    public int drawnBy(int cusps, int crossings) {
        if (cusps < 0 || crossings < 0) {
            return refuse(BELOW);
        }
        for (int size = 1; size < now.teeth; size++) {
            traceTrial(size);
            if (first.arcs == cusps && first.crossingsOfInner() == crossings) {
                return size;
            }
        }
        return NONE;
    }

    public int judge(int list, int wheel) {
        Row row = rowAt(list);
        Wheel w = now.wheelAt(wheel);
        if (row == null || w == null) {
            return refuse(NOBODY);
        }
        if (row.isMissing()) {
            return refuse(MISSING);
        }
        first.trace(now, w);
        for (int i = 0; i < row.size; i++) {
            if (!first.hasArc(i) || row.numbers[i] != first.begins[i]) {
                return i;
            }
        }
        return NONE;
    }

    public int lots(int n, int z, int what) {
        if (n < 1) {
            return refuse(BELOW);
        }
        if (n > MOST_LOTS) {
            return refuse(ROOM);
        }
        if (!isOneOfTwo(what)) {
            return refuse(OTHER);
        }
        if (now.wheelCount == 0) {
            return refuse(STATE);
        }
        thought.castLots(now, n, z);
        if (what == 0) {
            return now.teeth - Numbers.placesOf(0, thought.tally, now.teeth);
        }
        return thought.tally[0];
    }

    public int list(int list, int n) {
        Row row = rowAt(list);
        if (row == null) {
            return refuse(NOBODY);
        }
        if (n > MOST_PLACES) {
            return refuse(ROOM);
        }
        if (n < 0) {
            return refuse(SIZE_BELOW);
        }
        row.renew(n);
        return 1;
    }

    public int put(int list, int i, int v) {
        int refusal = refusalOfPlace(rowAt(list), i);
        if (refusal != 0) {
            return refuse(refusal);
        }
        rows[list].numbers[i] = v;
        return 1;
    }

    public long look(int list, int i) {
        int refusal = refusalOfPlace(rowAt(list), i);
        if (refusal != 0) {
            return refuseLong(refusal);
        }
        return rows[list].numbers[i];
    }

    public int lays(int list, int i, int wheel) {
        Row row = rowAt(list);
        Wheel w = now.wheelAt(wheel);
        if (row == null || w == null) {
            return refuse(NOBODY);
        }
        int refusal = refusalOfPlace(row, i);
        if (refusal != 0) {
            return refuse(refusal);
        }
        first.trace(now, w);
        int laid = Math.min(first.arcs, row.size - i);
        for (int arc = 0; arc < laid; arc++) {
            row.numbers[i + arc] = first.begins[arc];
        }
        return laid;
    }

    // ---- the image

    public int undo() {
        if (past.kept == 0) {
            return refuse(STATE);
        }
        past.giveBack(now);
        return past.kept;
    }

    public int image() {
        imaged.become(now);
        hasImage = true;
        return now.wheelCount;
    }

    public int on() {
        if (!hasImage) {
            return refuse(STATE);
        }
        now.become(imaged);
        past.forget();
        return now.wheelCount;
    }

    public int count(int what) {
        switch (what) {
            case 0:
                return now.wheelCount;
            case 1:
                return now.teeth;
            case 2:
                return now.inkedTeeth();
            case 3:
                return Numbers.placesOf(1, now.worn, now.teeth);
            case 4:
                return now.allInk();
            case 5:
                return letters.size;
            case 6:
                return past.kept;
            default:
                return what > 10 && what <= 10 + COUNTED_REFUSALS ? refused[what - 10] : NONE;
        }
    }

    // ---- what the calls share

    private int refuse(int number) {
        if (number < 0 && number >= -COUNTED_REFUSALS) {
            refused[-number]++;
        }
        return number;
    }

    private long refuseLong(int number) {
        return LONG_REFUSAL - refuse(number);
    }

    private static boolean isOneOfTwo(int what) {
        return what == 0 || what == 1;
    }

    private Row rowAt(int list) {
        return list >= 0 && list < MOST_LISTS ? rows[list] : null;
    }

    /** The refusal of a place of a LIST, 0 if there is that place. */
    private static int refusalOfPlace(Row row, int i) {
        if (row == null) {
            return NOBODY;
        }
        if (row.isMissing()) {
            return MISSING;
        }
        return row.hasPlace(i) ? 0 : NO_PLACE;
    }

    /** Traces the DRAWINGS of two WHEELS into first and second: false if one of them is not there. */
    private boolean tracesBoth(int one, int other) {
        Wheel w = now.wheelAt(one);
        Wheel v = now.wheelAt(other);
        if (w == null || v == null) {
            return false;
        }
        first.trace(now, w);
        second.trace(now, v);
        return true;
    }

    /** Traces the DRAWING of an INNER WHEEL AT tooth 0 into first. */
    private void traceTrial(int size) {
        trial.set(INNER, size, 0, 0, 1);
        first.trace(now, trial);
    }

    private int kindsThatLead(Row row, Wheel w) {
        int bits = 0;
        for (int kind = 0; kind < KINDS; kind++) {
            trial.set(kind, w.size, w.figure, 0, 1);
            if (now.leads(row, trial)) {
                bits |= 1 << kind;
            }
        }
        return bits;
    }

    private int figuresThatLead(Row row, Wheel w) {
        int bits = 0;
        for (int figure = 0; figure <= MOST_FIGURE; figure++) {
            trial.set(w.kind, w.size, figure, 0, 1);
            if (now.leads(row, trial)) {
                bits |= 1 << figure;
            }
        }
        return bits;
    }

    /** Sums that need nothing but their numbers. */
    private static final class Numbers {
        /** A rest from 0 on, of numbers below 0, too. */
        static int modulo(int number, int divisor) {
            int rest = divisor < 1 ? 0 : number % divisor;
            return rest < 0 ? rest + divisor : rest;
        }

        static int greatestDivisor(int one, int other) {
            int a = Math.abs(one);
            int b = Math.abs(other);
            // Each second turn halves a at least, so an int needs fewer than 64.
            for (int turn = 0; turn < 64 && b != 0; turn++) {
                int rest = a % b;
                a = b;
                b = rest;
            }
            return a;
        }

        /** The number above (part 0) or below the line of a fraction in least terms. */
        static int partOf(int above, int below, int part) {
            int divisor = greatestDivisor(above, below);
            if (divisor == 0) {
                return 0;
            }
            return part == 0 ? above / divisor : below / divisor;
        }

        /** The least place, of the first n, at which the greatest number stands. */
        static int placeOfMost(int[] row, int n) {
            int best = 0;
            for (int i = 1; i < n && i < row.length; i++) {
                if (row[i] > row[best]) {
                    best = i;
                }
            }
            return best;
        }

        /** At how many of the first n places a number stands. */
        static int placesOf(int number, int[] row, int n) {
            int places = 0;
            for (int i = 0; i < n && i < row.length; i++) {
                if (row[i] == number) {
                    places++;
                }
            }
            return places;
        }

        static int seedBehind(int seed) {
            return seed * 1664525 + 1013904223;
        }

        /** What a seed draws below m. */
        static int drawn(int seed, int m) {
            return modulo((seed & 0x7fffffff) / 256, m);
        }

        /** Whether the ARC between teeth a and b CROSSES that between c and d. */
        static boolean cross(int a, int b, int c, int d) {
            if (a == b || c == d || a == c || a == d || b == c || b == d) {
                return false;
            }
            int lesser = Math.min(a, b);
            int greater = Math.max(a, b);
            boolean holdsC = c > lesser && c < greater;
            boolean holdsD = d > lesser && d < greater;
            return holdsC != holdsD;
        }
    }

    /** A WHEEL: what it is told to be, where it is and how far it was rolled. */
    private static final class Wheel {
        int kind;
        int size = 1;
        int figure;
        int pace = 1;
        int at;
        int rolled;

        void set(int newKind, int newSize, int newFigure, int tooth, int newPace) {
            kind = newKind;
            size = newSize;
            figure = newFigure;
            pace = newPace;
            at = tooth;
            rolled = 0;
        }

        void become(Wheel w) {
            set(w.kind, w.size, w.figure, w.at, w.pace);
            rolled = w.rolled;
        }

        /** SIZE (what 1), FIGURE (2) or PACE (3) becomes v: what it was. */
        int exchange(int what, int v) {
            int was;
            if (what == 1) {
                was = size;
                size = v;
            } else if (what == 2) {
                was = figure;
                figure = v;
            } else {
                was = pace;
                pace = v;
            }
            return was;
        }

        int side() {
            return kind == INNER || kind == SLIPPING || kind == CHOOSY ? 0 : 1;
        }

        /** How many teeth of so many round the ring an ARC GOES. */
        int goes(int begin, int end, int teeth) {
            boolean down = kind == BACKWARD || kind == DOUBLE;
            return Numbers.modulo(down ? begin - end : end - begin, teeth);
        }

        /** What stands above the line in TURNS while SIZE stands below it. */
        int turnsTimesSize(int teeth) {
            switch (kind) {
                case INNER:
                    return teeth - size;
                case OUTER:
                    return teeth + size;
                case SLIPPING:
                case CHOOSY:
                    return teeth - size - figure;
                case BACKWARD:
                    return -(teeth + size);
                default:
                    return -2 * (teeth + size);
            }
        }
    }

    /** THE RING and the WHEELS on it: all that an image holds. */
    private static final class Ring {
        int teeth = TEETH_AT_FIRST;
        int wheelCount;
        final int[] ink = new int[MOST_TEETH];
        final int[] worn = new int[MOST_TEETH];
        final Wheel[] wheels = new Wheel[MOST_WHEELS];

        Ring() {
            for (int i = 0; i < MOST_WHEELS; i++) {
                wheels[i] = new Wheel();
            }
        }

        void become(Ring other) {
            teeth = other.teeth;
            wheelCount = other.wheelCount;
            System.arraycopy(other.ink, 0, ink, 0, MOST_TEETH);
            System.arraycopy(other.worn, 0, worn, 0, MOST_TEETH);
            for (int i = 0; i < MOST_WHEELS; i++) {
                wheels[i].become(other.wheels[i]);
            }
        }

        boolean isTooth(int tooth) {
            return tooth >= 0 && tooth < teeth;
        }

        boolean isSet(int set) {
            return set >= 1 && set < (1 << wheelCount);
        }

        Wheel wheelAt(int number) {
            return number >= 0 && number < wheelCount ? wheels[number] : null;
        }

        boolean canHave(int n) {
            boolean can = n >= LEAST_TEETH && n <= MOST_TEETH;
            for (int i = 0; i < wheelCount; i++) {
                can = can && wheels[i].size < n && wheels[i].at < n;
            }
            return can;
        }

        /** Becomes a ring of n teeth, if it can. */
        void renew(int n) {
            if (canHave(n)) {
                teeth = n;
                Arrays.fill(ink, 0);
                Arrays.fill(worn, 0);
            }
        }

        /** The first refusal of a WHEEL more, 0 if it can come. */
        int refusalOfWheel(int kind, int size, int figure, int tooth, int pace) {
            if (kind < 0 || kind >= KINDS) {
                return OTHER;
            }
            if (size < 1 || figure < 0 || pace < 1) {
                return BELOW;
            }
            boolean above = size >= teeth || figure > MOST_FIGURE || pace > MOST_PACE;
            if (above || wheelCount >= MOST_WHEELS) {
                return ROOM;
            }
            return isTooth(tooth) ? 0 : NOBODY;
        }

        void addWheel(int kind, int size, int figure, int tooth, int pace) {
            if (wheelCount < MOST_WHEELS) {
                wheels[wheelCount].set(kind, size, figure, tooth, pace);
                wheelCount++;
            }
        }

        /** NEXT of a tooth by a WHEEL, be it one of this ring's or not. */
        int nextBy(Wheel w, int tooth) {
            switch (w.kind) {
                case INNER:
                case OUTER:
                    return Numbers.modulo(tooth + w.size, teeth);
                case SLIPPING:
                    return slipped(w, tooth);
                case BACKWARD:
                    return Numbers.modulo(tooth - w.size, teeth);
                case CHOOSY:
                    return unwornFrom(slipped(w, tooth));
                default:
                    return Numbers.modulo(tooth - 2 * w.size, teeth);
            }
        }

        private int slipped(Wheel w, int tooth) {
            int slip = Numbers.modulo(tooth, w.figure + 2) == 0 ? w.figure : 0;
            return Numbers.modulo(tooth + w.size + slip, teeth);
        }

        /** The first tooth from this one on, round, that isn't WORN; this one, if all are. */
        private int unwornFrom(int tooth) {
            for (int far = 0; far < teeth; far++) {
                int t = Numbers.modulo(tooth + far, teeth);
                if (worn[t] == 0) {
                    return t;
                }
            }
            return tooth;
        }

        void wearOrMend(int tooth) {
            if (isTooth(tooth)) {
                worn[tooth] = 1 - worn[tooth];
            }
        }

        void rollTruly(Wheel w, int n) {
            for (int i = 0; i < n; i++) {
                int end = nextBy(w, w.at);
                ink[end] = Math.min(ink[end] + 1, GREATEST_TALLY);
                w.at = end;
            }
            w.rolled = Math.min(w.rolled + n, GREATEST_TALLY);
        }

        int inkedTeeth() {
            return teeth - Numbers.placesOf(0, ink, teeth);
        }

        int inkedFrom(int tooth) {
            for (int t = Math.max(tooth, 0); t < teeth; t++) {
                if (ink[t] > 0) {
                    return t;
                }
            }
            return NONE;
        }

        int lastInked() {
            for (int t = teeth - 1; t >= 0; t--) {
                if (ink[t] > 0) {
                    return t;
                }
            }
            return NONE;
        }

        int blot() {
            int most = Numbers.placeOfMost(ink, teeth);
            return ink[most] > 0 ? most : NONE;
        }

        int allInk() {
            int all = 0;
            for (int t = 0; t < teeth; t++) {
                all += ink[t];
            }
            return all;
        }

        boolean tellsTeeth(Row row) {
            for (int i = 0; i < row.size; i++) {
                if (!isTooth(row.numbers[i])) {
                    return false;
                }
            }
            return true;
        }

        /** Whether each tooth told is NEXT of the one told ahead of it by a WHEEL. */
        boolean leads(Row row, Wheel w) {
            for (int i = 1; i < row.size; i++) {
                if (nextBy(w, row.numbers[i - 1]) != row.numbers[i]) {
                    return false;
                }
            }
            return true;
        }
    }

    /** The DRAWING of the WHEEL that was traced last. */
    private static final class Drawing {
        int teeth;
        int side;
        int arcs;
        int tail;
        int linkCount;
        final int[] begins = new int[MOST_TEETH];
        final int[] ends = new int[MOST_TEETH];
        final int[] lengths = new int[MOST_TEETH];
        final int[] arcFrom = new int[MOST_TEETH];
        /** ARCS told by their two teeth: bit b of link a, a not above b. */
        final long[] links = new long[MOST_TEETH];

        void trace(Ring ring, Wheel w) {
            teeth = ring.teeth;
            side = w.side();
            arcs = 0;
            linkCount = 0;
            Arrays.fill(arcFrom, NONE);
            Arrays.fill(links, 0L);
            int t = w.at;
            for (int i = 0; i < teeth && arcFrom[t] == NONE; i++) {
                int end = ring.nextBy(w, t);
                begins[i] = t;
                ends[i] = end;
                lengths[i] = w.goes(t, end, teeth);
                arcFrom[t] = i;
                arcs = i + 1;
                addLink(t, end);
                t = end;
            }
            tail = arcFrom[t];
        }

        private void addLink(int one, int other) {
            if (!isLink(one, other)) {
                links[Math.min(one, other)] |= 1L << Math.max(one, other);
                linkCount++;
            }
        }

        private boolean isLink(int one, int other) {
            return (links[Math.min(one, other)] >>> Math.max(one, other) & 1L) == 1L;
        }

        boolean hasArc(int i) {
            return i >= 0 && i < arcs;
        }

        int rounds() {
            int all = 0;
            for (int i = Math.max(tail, 0); i < arcs; i++) {
                all += lengths[i];
            }
            return teeth < 1 ? 0 : all / teeth;
        }

        /** BEHIND a tooth; the tooth itself only if nothing was traced. */
        int cuspFrom(int tooth) {
            for (int far = 0; far < teeth; far++) {
                int t = Numbers.modulo(tooth + far, teeth);
                if (arcFrom[t] != NONE) {
                    return t;
                }
            }
            return tooth;
        }

        /** How many teeth from a CUSP up to the next one; all, if there is no other. */
        int gapAbove(int cusp) {
            int gap = Numbers.modulo(cuspFrom(cusp + 1) - cusp, teeth);
            return gap == 0 ? teeth : gap;
        }

        int cuspOfGap() {
            int best = cuspFrom(0);
            for (int t = best + 1; t < teeth; t++) {
                if (arcFrom[t] != NONE && gapAbove(t) > gapAbove(best)) {
                    best = t;
                }
            }
            return best;
        }

        /** How many ARCS of this CROSS the i-th one of another DRAWING. */
        int crossedBy(Drawing other, int i) {
            int crossed = 0;
            if (side == other.side && other.hasArc(i)) {
                for (int k = 0; k < arcs; k++) {
                    if (Numbers.cross(begins[k], ends[k], other.begins[i], other.ends[i])) {
                        crossed++;
                    }
                }
            }
            return crossed;
        }

        int crossingsWith(Drawing other) {
            int all = 0;
            for (int i = 0; i < other.arcs; i++) {
                all += crossedBy(other, i);
            }
            return all;
        }

        int crossings() {
            // Each pair is met from both of its ARCS.
            return crossingsWith(this) / 2;
        }

        /** The CROSSINGS of an INNER WHEEL: turning it by SIZE takes each ARC for the next, so ARC 0 tells of all. */
        int crossingsOfInner() {
            return arcs * crossedBy(this, 0) / 2;
        }

        int mostCrossing() {
            int best = 0;
            int most = crossedBy(this, 0);
            for (int i = 1; i < arcs; i++) {
                int crossed = crossedBy(this, i);
                if (crossed > most) {
                    best = i;
                    most = crossed;
                }
            }
            return best;
        }

        /** The least c with which c plus or less (sign 1, -1) each tooth makes this the other one; -9 none. */
        int shiftOnto(Drawing other, int sign) {
            if (side == other.side && linkCount == other.linkCount) {
                for (int c = 0; c < teeth; c++) {
                    if (isShiftOnto(other, sign, c)) {
                        return c;
                    }
                }
            }
            return NONE;
        }

        /** Unlike ARCS stay unlike, so with as many of them it is enough that each is one of the other's. */
        private boolean isShiftOnto(Drawing other, int sign, int c) {
            for (int i = 0; i < arcs; i++) {
                int begin = Numbers.modulo(c + sign * begins[i], teeth);
                int end = Numbers.modulo(c + sign * ends[i], teeth);
                if (!other.isLink(begin, end)) {
                    return false;
                }
            }
            return true;
        }
    }

    /** Where WHEELS come in thought, tick by tick or lot by lot, while THE RING stays as it is. */
    private static final class Thought {
        final int[] at = new int[MOST_WHEELS];
        final boolean[] touches = new boolean[MOST_WHEELS];
        final int[] ticks = new int[MOST_TOUCHES];
        final int[] touched = new int[MOST_TOUCHES];
        final int[] touchers = new int[MOST_TOUCHES];
        final int[] tally = new int[MOST_TEETH];
        int found;

        void begin(Ring ring) {
            for (int i = 0; i < MOST_WHEELS; i++) {
                at[i] = ring.wheels[i].at;
            }
            Arrays.fill(tally, 0);
            found = 0;
        }

        /** Moves the WHEELS of a set that end an ARC at this tick; touches tells which. */
        void passTick(Ring ring, int set, int tick) {
            for (int i = 0; i < MOST_WHEELS; i++) {
                Wheel w = ring.wheels[i];
                touches[i] = (set >> i & 1) == 1 && Numbers.modulo(tick, w.pace) == 0;
                if (touches[i]) {
                    at[i] = ring.nextBy(w, at[i]);
                }
            }
        }

        /** The least tooth that two WHEELS touch at the tick passed last; -9. */
        int meetingTooth() {
            int least = NONE;
            for (int i = 0; i < MOST_WHEELS; i++) {
                for (int k = i + 1; k < MOST_WHEELS; k++) {
                    boolean meets = touches[i] && touches[k] && at[i] == at[k];
                    if (meets && (least == NONE || at[i] < least)) {
                        least = at[i];
                    }
                }
            }
            return least;
        }

        /** Finds the first n TOUCHES of a set (some more, if they are of one tick). */
        void follow(Ring ring, int set, int n) {
            begin(ring);
            for (int tick = 1; tick <= MOST_TOUCHES * MOST_PACE && found < n; tick++) {
                passTick(ring, set, tick);
                noteTouches(tick);
            }
        }

        private void noteTouches(int tick) {
            for (int k = 0; k < MOST_WHEELS && found < MOST_TOUCHES; k++) {
                int wheel = leastToucher();
                if (wheel != NONE) {
                    ticks[found] = tick;
                    touched[found] = at[wheel];
                    touchers[found] = wheel;
                    touches[wheel] = false;
                    found++;
                }
            }
        }

        /** Of the WHEELS whose touch is not noted yet, the first of those at the least tooth; -9. */
        private int leastToucher() {
            int least = NONE;
            for (int i = 0; i < MOST_WHEELS; i++) {
                if (touches[i] && (least == NONE || at[i] < at[least])) {
                    least = i;
                }
            }
            return least;
        }

        void tallyFirst(int n) {
            for (int i = 0; i < n && i < found; i++) {
                tally[touched[i]]++;
            }
        }

        void castLots(Ring ring, int n, int seed) {
            begin(ring);
            int z = seed;
            for (int time = 0; time < n; time++) {
                z = Numbers.seedBehind(z);
                int wheel = Numbers.drawn(z, ring.wheelCount);
                z = Numbers.seedBehind(z);
                int arcs = Numbers.drawn(z, MOST_ARCS_A_LOT) + 1;
                for (int i = 0; i < arcs; i++) {
                    at[wheel] = ring.nextBy(ring.wheels[wheel], at[wheel]);
                    tally[at[wheel]]++;
                }
            }
        }
    }

    /** The letters that have come, and the STATEMENTS that they tell. */
    private static final class Letters {
        final int[] signs = new int[MOST_LETTERS];
        int size;

        void append(int c) {
            if (size < MOST_LETTERS) {
                signs[size] = c;
                size++;
            }
        }

        /** How many digits a STATEMENT has that begins with this letter; -9 none begins so. */
        private static int digitsBehind(int letter) {
            switch (letter) {
                case 'r':
                case 'x':
                    return 2;
                case 'a':
                case 'g':
                    return 3;
                case 'w':
                    return 7;
                default:
                    return NONE;
            }
        }

        /** The place of the FAULT of kind 1; -9 there is none. */
        int firstMisplaced() {
            boolean within = false;
            int digits = 0;
            for (int place = 0; place < size; place++) {
                int c = signs[place];
                if (!within) {
                    digits = digitsBehind(c);
                    if (digits == NONE) {
                        return place;
                    }
                    within = true;
                } else if (digits > 0) {
                    if (c < '0' || c > '9') {
                        return place;
                    }
                    digits--;
                } else {
                    if (c != ';') {
                        return place;
                    }
                    within = false;
                }
            }
            return within || size == 0 ? size : NONE;
        }

        boolean beginsStatement(int place) {
            return place == 0 || place > 0 && place < size && signs[place - 1] == ';';
        }

        /** The number that one digit or two tell from a place on. */
        private int number(int place, int digits) {
            int value = 0;
            for (int i = place; i < place + digits; i++) {
                int digit = i >= 0 && i < size ? signs[i] - '0' : 0;
                value = value * 10 + digit;
            }
            return value;
        }

        /** Does the STATEMENT that begins at a place to a ring: false if it is not as it must be. */
        boolean comesTrue(int place, Ring ring) {
            if (place < 0 || place >= size) {
                return false;
            }
            switch (signs[place]) {
                case 'r':
                    return ringComes(ring, number(place + 1, 2));
                case 'w':
                    return wheelComes(ring, place);
                case 'x':
                    return wearComes(ring, number(place + 1, 2));
                case 'a':
                    return placeComes(ring, number(place + 1, 1), number(place + 2, 2));
                default:
                    return rollComes(ring, number(place + 1, 1), number(place + 2, 2));
            }
        }

        private static boolean ringComes(Ring ring, int n) {
            boolean can = ring.canHave(n);
            ring.renew(n);
            return can;
        }

        private boolean wheelComes(Ring ring, int place) {
            int kind = number(place + 1, 1);
            int wheelSize = number(place + 2, 2);
            int figure = number(place + 4, 1);
            int tooth = number(place + 5, 2);
            int pace = number(place + 7, 1);
            if (ring.refusalOfWheel(kind, wheelSize, figure, tooth, pace) != 0) {
                return false;
            }
            ring.addWheel(kind, wheelSize, figure, tooth, pace);
            return true;
        }

        private static boolean wearComes(Ring ring, int tooth) {
            ring.wearOrMend(tooth);
            return ring.isTooth(tooth);
        }

        private static boolean placeComes(Ring ring, int wheel, int tooth) {
            Wheel w = ring.wheelAt(wheel);
            if (w == null || !ring.isTooth(tooth)) {
                return false;
            }
            w.at = tooth;
            return true;
        }

        private static boolean rollComes(Ring ring, int wheel, int n) {
            Wheel w = ring.wheelAt(wheel);
            if (w == null || n < 1 || n > MOST_ROLLS) {
                return false;
            }
            ring.rollTruly(w, n);
            return true;
        }
    }

    /** A LIST: missing until it gets a size. */
    private static final class Row {
        int size = -1;
        final int[] numbers = new int[MOST_PLACES];

        boolean isMissing() {
            return size < 0;
        }

        boolean hasPlace(int i) {
            return i >= 0 && i < size;
        }

        void renew(int n) {
            if (n >= 0 && n <= MOST_PLACES) {
                size = n;
                Arrays.fill(numbers, 0);
            }
        }
    }

    /** How THE RING and WHEELS were ahead of the latest calls that can be UNDONE. */
    private static final class Past {
        final Ring[] rings = new Ring[MOST_UNDONE];
        int kept;
        /** Where the next one is kept: behind the latest, round, so on the oldest when all are kept. */
        int place;

        Past() {
            for (int i = 0; i < MOST_UNDONE; i++) {
                rings[i] = new Ring();
            }
        }

        void keep(Ring ring) {
            rings[place].become(ring);
            place = Numbers.modulo(place + 1, MOST_UNDONE);
            kept = Math.min(kept + 1, MOST_UNDONE);
        }

        void giveBack(Ring ring) {
            if (kept > 0) {
                place = Numbers.modulo(place - 1, MOST_UNDONE);
                kept--;
                ring.become(rings[place]);
            }
        }

        void forget() {
            kept = 0;
        }
    }
}
