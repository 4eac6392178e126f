import java.util.Arrays;

/**
 * A reckoner of old measures: likenesses of measures by place and days, ways from one measure to
 * another, quarrels and their cure, customs by which a sum is parted, and accounts in mixed measures.
 */
public final class OldReckoner {
    public static final long BAD = -9000000000000000001L;
    public static final long NO = -9000000000000000002L;
    public static final long FULL = -9000000000000000003L;
    public static final long LARGE = -9000000000000000004L;
    public static final long NONE = -9000000000000000005L;
    public static final long NOTHING = -9000000000000000011L;
    public static final long INDEX = -9000000000000000013L;
    public static final long SIZE = -9000000000000000014L;

    private static final int PLACES = 8;
    private static final int DAYS = 10000;
    private static final int MEASURES = 10;
    private static final int MOST_LIKENESSES = 24;
    private static final int MOST_TERM = 1000;
    private static final int MOST_WORTH = 100;
    private static final int MOST_SPREAD = 500;
    private static final int MOST_CHOICES = 10;
    private static final int CUSTOMS = 4;
    private static final int MOST_STEPS = 5;
    private static final int LEAST_STEP = 2;
    private static final int MOST_STEP = 1000;
    private static final long MOST_PARTED = 1000000000000000L;
    private static final long PARTS_LIMIT = 1000000000000000000L;
    private static final int MOST_LINES = 20;
    private static final int MOST_AMOUNT = 1000000;
    private static final int MOST_TOLD = 1000000000;

    private static final int KINDS = 5;
    private static final int ANY_KIND = 0;
    private static final int HEAPED = 1;
    private static final int DOUBTFUL = 2;
    private static final int LOCAL = 3;
    private static final int HEARSAY = 4;

    private static final int NO_LINE = -1;
    private static final long RIGHT = 1;
    private static final long WRONG = 0;
    private static final int TWICE = 1;
    private static final int OUT = 2;
    private static final int TWELVE_FOR_TEN = 3;

    private final int[] liesIn = new int[PLACES];
    private final Likeness[] likenesses = new Likeness[MOST_LIKENESSES];
    private int likenessCount;
    private final Custom[] customs = new Custom[CUSTOMS];
    private final Line[] lines = new Line[MOST_LINES];
    private int lineCount;
    private final Trail trail = new Trail();
    private final Counting counting = new Counting();
    private final Picking picking = new Picking();
    private final Spanning spanning = new Spanning();
    private final Judging judging = new Judging();
    private final Fraction sumLow = new Fraction();
    private final Fraction sumHigh = new Fraction();
    private final Fraction term = new Fraction();

    public OldReckoner() {
        for (int i = 0; i < CUSTOMS; i++) {
            customs[i] = new Custom();
        }
    }

    // ---- places, likenesses

    public long lies(int place, int in) {
        if (place < 1 || place >= PLACES || in < 0 || in >= place) {
            return BAD;
        }
        int before = liesIn[place];
        liesIn[place] = in;
        return before;
    }

    public long within(int place, int in) {
        if (!isPlace(place) || !isPlace(in)) {
            return BAD;
        }
        return isWithin(place, in) ? 1 : 0;
    }

    public long likeness(int kind, int aAndB, int p, int q) {
        if (!isKind(kind) || !isPair(aAndB) || !isTerm(p) || !isTerm(q)) {
            return BAD;
        }
        if (likenessCount >= MOST_LIKENESSES) {
            return FULL;
        }
        likenesses[likenessCount] = new Likeness(likenessCount, kind, aAndB, p, q);
        return likenessCount++;
    }

    public long holds(int likeness, int place, int first, int last) {
        Likeness it = find(likeness);
        if (it == null || !isPlace(place) || !isDay(first) || !isDay(last) || first > last) {
            return BAD;
        }
        it.place = place;
        it.first = first;
        it.last = last;
        return 0;
    }

    public long doubt(int likeness, int worth, int spread) {
        Likeness it = find(likeness);
        if (it == null || worth < 0 || worth > MOST_WORTH || spread < 0 || spread > MOST_SPREAD) {
            return BAD;
        }
        it.worth = worth;
        it.spread = spread;
        it.reckonEnds();
        return 0;
    }

    public long drop(int likeness, int on) {
        Likeness it = find(likeness);
        if (it == null || on < 0 || on > 1) {
            return BAD;
        }
        if (!it.is(DOUBTFUL)) {
            return NO;
        }
        long before = it.dropped ? 1 : 0;
        it.dropped = on == 1;
        return before;
    }

    public long forget() {
        if (likenessCount == 0) {
            return NO;
        }
        likenessCount--;
        likenesses[likenessCount] = null;
        return likenessCount;
    }

    public long told(int likeness, int what) {
        Likeness it = find(likeness);
        if (it == null) {
            return BAD;
        }
        switch (what) {
            case 0: return it.kind;
            case 1: return it.a;
            case 2: return it.b;
            case 3: return it.p;
            case 4: return it.q;
            case 5: return it.place;
            case 6: return it.first;
            case 7: return it.last;
            case 8: return it.worth;
            case 9: return it.spread;
            case 10: return it.dropped ? 1 : 0;
            default: return BAD;
        }
    }

    public long isOf(int likeness, int kind) {
        Likeness it = find(likeness);
        if (it == null || !isKind(kind)) {
            return BAD;
        }
        return it.is(kind) ? 1 : 0;
    }

    public long end(int likeness, int end, int part) {
        Likeness it = find(likeness);
        if (it == null || !isEither(end) || !isEither(part)) {
            return BAD;
        }
        return endOf(it.low, it.high, end, part);
    }

    public long counts(int likeness, int place, int day) {
        Likeness it = find(likeness);
        if (it == null || !isPlace(place) || !isDay(day)) {
            return BAD;
        }
        return countsAt(it, place, day) ? 1 : 0;
    }

    // ---- ways: aAndB is 10 * a + b, placeAndDay is 10000 * place + day

    public long ways(int aAndB, int placeAndDay) {
        if (!isPair(aAndB) || !isPlaceAndDay(placeAndDay)) {
            return BAD;
        }
        gather(placeAndDay);
        counting.found = 0;
        trail.seekWays(aAndB / MEASURES, aAndB % MEASURES, counting);
        return counting.found;
    }

    public long way(int aAndB, int placeAndDay, int k, int i) {
        if (!isPair(aAndB) || !isPlaceAndDay(placeAndDay) || k < 0 || i < 0) {
            return BAD;
        }
        gather(placeAndDay);
        if (!trail.pickWay(aAndB / MEASURES, aAndB % MEASURES, k, picking) || i >= trail.length) {
            return NONE;
        }
        return trail.row[i];
    }

    public long factor(int aAndB, int placeAndDay, int end, int part) {
        if (!isPair(aAndB) || !isPlaceAndDay(placeAndDay) || !isEither(end) || !isEither(part)) {
            return BAD;
        }
        gather(placeAndDay);
        if (!trail.pickWay(aAndB / MEASURES, aAndB % MEASURES, 0, picking)) {
            return NONE;
        }
        return endOf(trail.low(), trail.high(), end, part);
    }

    public long span(int aAndB, int placeAndDay, int end, int part) {
        if (!isPair(aAndB) || !isPlaceAndDay(placeAndDay) || !isEither(end) || !isEither(part)) {
            return BAD;
        }
        gather(placeAndDay);
        spanning.found = false;
        trail.seekWays(aAndB / MEASURES, aAndB % MEASURES, spanning);
        if (!spanning.found) {
            return NONE;
        }
        return endOf(spanning.low, spanning.high, end, part);
    }

    public long quarrel(int placeAndDay, int i) {
        if (!isPlaceAndDay(placeAndDay) || i < 0) {
            return BAD;
        }
        gather(placeAndDay);
        judging.begin();
        trail.seekRings(judging);
        if (judging.large) {
            return LARGE;
        }
        return i < judging.length ? judging.row[i] : NONE;
    }

    public long cure(int placeAndDay) {
        return isPlaceAndDay(placeAndDay) ? findCure(placeAndDay) : BAD;
    }

    public long heal(int placeAndDay) {
        long found = isPlaceAndDay(placeAndDay) ? findCure(placeAndDay) : BAD;
        if (found < 0) {
            return found;
        }
        for (int n = 0; n < likenessCount; n++) {
            Likeness it = likenesses[n];
            if (it != null && (found >> n & 1) == 1) {
                it.dropped = true;
            }
        }
        return Long.bitCount(found);
    }

    // ---- customs

    public long custom(int custom, int n) {
        Custom it = findCustom(custom);
        if (it == null || n > MOST_STEPS) {
            return BAD;
        }
        if (n < 0) {
            return SIZE;
        }
        it.begin(n);
        return n;
    }

    public long step(int custom, int place, int v) {
        Custom it = findCustom(custom);
        if (it == null) {
            return BAD;
        }
        if (it.missing) {
            return NOTHING;
        }
        if (place < 0 || place >= it.size) {
            return INDEX;
        }
        if (v < LEAST_STEP || v > MOST_STEP) {
            return BAD;
        }
        int before = it.steps[place];
        it.steps[place] = v;
        return before;
    }

    public long copy(int from, int to, int many) {
        Custom giver = findCustom(from);
        Custom taker = findCustom(to);
        if (giver == null || taker == null) {
            return BAD;
        }
        if (giver.missing || taker.missing) {
            return NOTHING;
        }
        if (many < 0 || many > giver.size || many > taker.size) {
            return INDEX;
        }
        for (int i = 0; i < many; i++) {
            taker.steps[i] = giver.steps[i];
        }
        return many;
    }

    public long part(int custom, long v, int i) {
        Custom it = findCustom(custom);
        if (it == null || v < -MOST_PARTED || v > MOST_PARTED) {
            return BAD;
        }
        if (it.missing) {
            return NOTHING;
        }
        if (i < 0 || i > it.size) {
            return INDEX;
        }
        return v < 0 ? -it.partOf(-v, i) : it.partOf(v, i);
    }

    public long whole(int custom, long parts) {
        Custom it = findCustom(custom);
        if (it == null || parts < 0 || parts >= PARTS_LIMIT) {
            return BAD;
        }
        return it.missing ? NOTHING : it.putTogether(parts);
    }

    // ---- accounts

    public long line(int amount, int measure, int place, int day) {
        if (!isAmount(amount) || !isMeasure(measure) || !isPlace(place) || !isDay(day)) {
            return BAD;
        }
        if (lineCount >= MOST_LINES) {
            return FULL;
        }
        lines[lineCount] = new Line(amount, measure, place, day);
        return lineCount++;
    }

    public long amend(int line, int v) {
        Line it = findLine(line);
        if (it == null || !isAmount(v)) {
            return BAD;
        }
        int before = it.amount;
        it.amount = v;
        return before;
    }

    public long clear() {
        int before = lineCount;
        for (int i = 0; i < before; i++) {
            lines[i] = null;
        }
        lineCount = 0;
        return before;
    }

    public long total(int measure, int end, int part) {
        if (!isMeasure(measure) || !isEither(end) || !isEither(part)) {
            return BAD;
        }
        if (!weighLines(measure)) {
            return NONE;
        }
        sumLines(NO_LINE, 0);
        return endOf(sumLow, sumHigh, end, part);
    }

    public long slip(int measure, int told) {
        if (!isMeasure(measure) || told < -MOST_TOLD || told > MOST_TOLD) {
            return BAD;
        }
        if (!weighLines(measure)) {
            return NONE;
        }
        long verdict = tryAmount(NO_LINE, 0, told);
        if (verdict == RIGHT) {
            return 0;
        }
        return verdict == LARGE ? LARGE : firstSlip(told);
    }

    public long count(int what) {
        switch (what) {
            case 0: return likenessCount;
            case 1: return droppedOnes();
            case 2: return customsThere();
            case 3: return lineCount;
            case 4: return measuresNamed();
            default: return BAD;
        }
    }

    // ---- what arguments may be

    private static boolean isPlace(int place) {
        return place >= 0 && place < PLACES;
    }

    private static boolean isDay(int day) {
        return day >= 0 && day < DAYS;
    }

    private static boolean isMeasure(int measure) {
        return measure >= 0 && measure < MEASURES;
    }

    private static boolean isKind(int kind) {
        return kind >= 0 && kind < KINDS;
    }

    private static boolean isPair(int aAndB) {
        return aAndB >= 0 && aAndB < MEASURES * MEASURES;
    }

    private static boolean isPlaceAndDay(int placeAndDay) {
        return placeAndDay >= 0 && placeAndDay < PLACES * DAYS;
    }

    private static boolean isTerm(int v) {
        return v >= 1 && v <= MOST_TERM;
    }

    private static boolean isEither(int v) {
        return v == 0 || v == 1;
    }

    private static boolean isAmount(int v) {
        return v >= -MOST_AMOUNT && v <= MOST_AMOUNT;
    }

    private Likeness find(int likeness) {
        return likeness >= 0 && likeness < likenessCount ? likenesses[likeness] : null;
    }

    private Custom findCustom(int custom) {
        return custom >= 0 && custom < CUSTOMS ? customs[custom] : null;
    }

    private Line findLine(int line) {
        return line >= 0 && line < lineCount ? lines[line] : null;
    }

    // ---- places and days

    private boolean isWithin(int place, int in) {
        int at = place;
        // What a place lies in has a lesser number, so the climb is at the land in PLACES turns.
        for (int i = 0; i < PLACES && at > in; i++) {
            at = liesIn[at];
        }
        return at == in;
    }

    private boolean countsAt(Likeness it, int place, int day) {
        if (it.dropped || day < it.first || day > it.last) {
            return false;
        }
        return it.kind == LOCAL ? place == it.place : isWithin(place, it.place);
    }

    /** Lays the likenesses that count at a place and day before the trail, by their numbers. */
    private void gather(int placeAndDay) {
        trail.opened = 0;
        for (int n = 0; n < likenessCount; n++) {
            Likeness it = likenesses[n];
            if (it != null && countsAt(it, placeAndDay / DAYS, placeAndDay % DAYS)) {
                trail.admit(it);
            }
        }
    }

    /** The asked number of two ends; both are refused as LARGE if either of them is. */
    private static long endOf(Fraction low, Fraction high, int end, int part) {
        if (low.large || high.large) {
            return LARGE;
        }
        Fraction asked = end == 0 ? low : high;
        return part == 0 ? asked.above : asked.below;
    }

    private long findCure(int placeAndDay) {
        gather(placeAndDay);
        judging.begin();
        if (!judging.choose(trail)) {
            return LARGE;
        }
        trail.seekRings(judging);
        return judging.large ? LARGE : judging.cheapest();
    }

    // ---- what there is

    private int droppedOnes() {
        int many = 0;
        for (int n = 0; n < likenessCount; n++) {
            Likeness it = likenesses[n];
            if (it != null && it.dropped) {
                many++;
            }
        }
        return many;
    }

    private int customsThere() {
        int many = 0;
        for (int i = 0; i < CUSTOMS; i++) {
            Custom it = customs[i];
            if (it != null && !it.missing) {
                many++;
            }
        }
        return many;
    }

    private int measuresNamed() {
        int named = 0;
        for (int n = 0; n < likenessCount; n++) {
            Likeness it = likenesses[n];
            if (it != null) {
                named |= 1 << it.a | 1 << it.b;
            }
        }
        return Integer.bitCount(named);
    }

    // ---- accounts

    /** Keeps with each line the ends of its way to a measure; false if some line has no way. */
    private boolean weighLines(int measure) {
        for (int i = 0; i < lineCount; i++) {
            Line it = lines[i];
            if (it != null) {
                gather(it.place * DAYS + it.day);
                if (!trail.pickWay(it.measure, measure, 0, picking)) {
                    return false;
                }
                it.low.become(trail.low());
                it.high.become(trail.high());
            }
        }
        return true;
    }

    /** Sums the weighed lines, one of them with another amount than its own. */
    private void sumLines(int changed, long amount) {
        sumLow.become(0, 1);
        sumHigh.become(0, 1);
        for (int i = 0; i < lineCount; i++) {
            Line it = lines[i];
            if (it != null) {
                long v = i == changed ? amount : it.amount;
                // An amount below 0 turns the order of its ends.
                term.becomeProduct(v < 0 ? it.high : it.low, v, 1);
                sumLow.add(term);
                term.becomeProduct(v < 0 ? it.low : it.high, v, 1);
                sumHigh.add(term);
            }
        }
    }

    /** RIGHT, WRONG or LARGE: the weighed lines, one of them with another amount, and a told total. */
    private long tryAmount(int changed, long amount, int told) {
        sumLines(changed, amount);
        if (sumLow.large || sumHigh.large) {
            return LARGE;
        }
        return sumLow.ceiling() <= told && told <= sumHigh.floor() ? RIGHT : WRONG;
    }

    private long firstSlip(int told) {
        for (int cost = 1; cost <= 2; cost++) {
            for (int i = 0; i < lineCount; i++) {
                Line it = lines[i];
                if (it != null) {
                    long found = slipOfLine(i, it.amount, cost, told);
                    if (found != NONE) {
                        return found;
                    }
                }
            }
        }
        return NONE;
    }

    private long slipOfLine(int number, int amount, int cost, int told) {
        int last = 2 * cost;
        for (int form = last - 1; form <= last; form++) {
            if (Line.canBe(form, amount)) {
                long verdict = tryAmount(number, Line.amended(form, amount), told);
                if (verdict != WRONG) {
                    return verdict == RIGHT ? 10L * number + form : LARGE;
                }
            }
        }
        return NONE;
    }

    /** A fraction in lowest terms; of a LARGE one only that it is LARGE is kept. */
    private static final class Fraction {
        private static final long LIMIT = 1000000000000000L;
        private static final long SUM_LIMIT = 1000000000000000000L;
        /** More steps than Euclid's way takes with numbers of a long. */
        private static final int DIVISIONS = 100;

        long above;
        long below = 1;
        boolean large;

        void become(long a, long b) {
            long g = commonDivisor(a, b);
            large = false;
            above = a / g;
            below = b / g;
        }

        void become(Fraction other) {
            large = other.large;
            above = other.above;
            below = other.below;
        }

        /** One fraction times a / b, both in lowest terms, so that only crosswise they share divisors. */
        void becomeProduct(Fraction one, long a, long b) {
            long g = commonDivisor(one.above, b);
            long h = commonDivisor(one.below, a);
            settle(one.large
                    || reaches(one.above / g, a / h, LIMIT)
                    || reaches(one.below / h, b / g, LIMIT),
                    one.above / g * (a / h), one.below / h * (b / g));
        }

        void add(Fraction other) {
            long g = commonDivisor(below, other.below);
            long more = other.below / g;
            long most = below / g;
            if (large || other.large || reaches(above, more, SUM_LIMIT)
                    || reaches(other.above, most, SUM_LIMIT) || reaches(below, more, SUM_LIMIT)) {
                settle(true, 0, 1);
                return;
            }
            long sum = above * more + other.above * most;
            long under = below * more;
            long shared = commonDivisor(sum, under);
            settle(reaches(sum / shared, 1, LIMIT) || reaches(under / shared, 1, LIMIT),
                    sum / shared, under / shared);
        }

        boolean isAboveOne() {
            return !large && above > below;
        }

        /** Whether it is less than another one, both above 0, without products that don't fit. */
        boolean isLess(Fraction other) {
            long a = above;
            long b = below;
            long c = other.above;
            long d = other.below;
            for (int i = 0; i < DIVISIONS && b > 0 && d > 0; i++) {
                if (a / b != c / d) {
                    return a / b < c / d;
                }
                long left = a % b;
                long right = c % d;
                if (left == 0 || right == 0) {
                    return left < right;
                }
                // left / b is less than right / d just if d / right is less than b / left.
                a = d;
                c = b;
                b = right;
                d = left;
            }
            return false;
        }

        long floor() {
            return below > 0 ? Math.floorDiv(above, below) : 0;
        }

        long ceiling() {
            return below > 0 ? -Math.floorDiv(-above, below) : 0;
        }

        private void settle(boolean isLarge, long a, long b) {
            large = isLarge;
            above = isLarge ? 0 : a;
            below = isLarge ? 1 : b;
        }

        private static boolean reaches(long x, long y, long limit) {
            long size = Math.abs(x);
            return size > 0 && Math.abs(y) > (limit - 1) / size;
        }

        /** Never below 1, so that it may divide. */
        private static long commonDivisor(long x, long y) {
            long a = Math.abs(x);
            long b = Math.abs(y);
            for (int i = 0; i < DIVISIONS && b > 0; i++) {
                long rest = a % b;
                a = b;
                b = rest;
            }
            return Math.max(a, 1);
        }
    }

    private static final class Likeness {
        private static final int THOUSAND = 1000;
        /** The kind that each kind is of, too. */
        private static final int[] WIDER = {ANY_KIND, ANY_KIND, ANY_KIND, HEAPED, DOUBTFUL};

        final int number;
        final int kind;
        final int a;
        final int b;
        final int p;
        final int q;
        final Fraction low = new Fraction();
        final Fraction high = new Fraction();
        int place;
        int first;
        int last = DAYS - 1;
        int worth = 1;
        int spread;
        boolean dropped;

        Likeness(int number, int kind, int aAndB, int p, int q) {
            this.number = number;
            this.kind = kind;
            this.a = aAndB / MEASURES;
            this.b = aAndB % MEASURES;
            this.p = p;
            this.q = q;
            reckonEnds();
        }

        boolean is(int other) {
            return other == ANY_KIND || other == kind || other == WIDER[kind];
        }

        /** Its numbers are far from LARGE. */
        void reckonEnds() {
            int lowShare = is(DOUBTFUL) ? THOUSAND - spread : is(HEAPED) ? THOUSAND + spread : THOUSAND;
            int highShare = is(DOUBTFUL) || is(HEAPED) ? THOUSAND + spread : THOUSAND;
            int width = kind == HEARSAY ? 2 : 1;
            low.become((long) p * lowShare, (long) q * THOUSAND * width);
            high.become((long) p * highShare * width, (long) q * THOUSAND);
        }

        /** The measure that it leads to from one of its own; -1 from another one. */
        int across(int from) {
            if (from == a) {
                return b;
            }
            return from == b ? a : -1;
        }
    }

    /** What a search does with each row of likenesses that arrives. */
    private abstract static class Goal {
        abstract void arrived(Trail trail);
    }

    private static final class Counting extends Goal {
        long found;

        void arrived(Trail trail) {
            found++;
        }
    }

    /** Ends the search at one row of a length, so many of that length being passed by. */
    private static final class Picking extends Goal {
        int wanted;
        int passed;

        void arrived(Trail trail) {
            if (trail.length != wanted) {
                return;
            }
            if (passed == 0) {
                trail.over = true;
            }
            passed--;
        }
    }

    private static final class Spanning extends Goal {
        final Fraction low = new Fraction();
        final Fraction high = new Fraction();
        boolean found;

        void arrived(Trail trail) {
            if (!found || trail.low().large || trail.low().isLess(low)) {
                low.become(trail.low());
            }
            if (!found || trail.high().large || high.isLess(trail.high())) {
                high.become(trail.high());
            }
            found = true;
            trail.over = low.large || high.large;
        }
    }

    /** Looks for the quarrel among rings, and for the cheapest likenesses to drop. */
    private static final class Judging extends Goal {
        final int[] row = new int[MEASURES];
        int length;
        boolean large;
        private final Likeness[] choices = new Likeness[MOST_CHOICES];
        private int chosen;
        private final int[] bitOf = new int[MOST_LIKENESSES];
        /** By bits of the choices: whether a quarrel has these, and no other choice. */
        private final boolean[] quarrels = new boolean[1 << MOST_CHOICES];

        void begin() {
            length = 0;
            large = false;
            chosen = 0;
            Arrays.fill(bitOf, 0);
        }

        /** Takes the likenesses that could be dropped; false if there are too many. */
        boolean choose(Trail trail) {
            for (int i = 0; i < trail.opened; i++) {
                Likeness it = trail.open[i];
                if (it != null && it.is(DOUBTFUL)) {
                    if (chosen >= MOST_CHOICES) {
                        return false;
                    }
                    bitOf[it.number] = 1 << chosen;
                    choices[chosen] = it;
                    chosen++;
                }
            }
            for (int bits = 0; bits < 1 << chosen; bits++) {
                quarrels[bits] = false;
            }
            return true;
        }

        void arrived(Trail trail) {
            if (trail.low().large || trail.high().large) {
                large = true;
                trail.over = true;
            } else if (trail.low().isAboveOne()) {
                quarrels[choicesIn(trail)] = true;
                if (length == 0 || isAhead(trail)) {
                    length = trail.length;
                    System.arraycopy(trail.row, 0, row, 0, length);
                }
            }
        }

        private int choicesIn(Trail trail) {
            int bits = 0;
            for (int i = 0; i < trail.length; i++) {
                bits |= bitOf[trail.numberAt(i)];
            }
            return bits;
        }

        private boolean isAhead(Trail trail) {
            if (trail.length != length) {
                return trail.length < length;
            }
            for (int i = 0; i < length; i++) {
                int mine = row[i] % Trail.TURNED;
                if (trail.numberAt(i) != mine) {
                    return trail.numberAt(i) < mine;
                }
            }
            return false;
        }

        /** The cure, as bits by the likenesses' numbers, or NONE. */
        long cheapest() {
            spreadToMore();
            int all = (1 << chosen) - 1;
            int best = -1;
            for (int bits = 0; bits <= all; bits++) {
                if (!quarrels[all ^ bits] && (best < 0 || isCheaper(bits, best))) {
                    best = bits;
                }
            }
            return best < 0 ? NONE : byNumbers(best);
        }

        /** A quarrel of some choices stays while these, and whatever others, are kept. */
        private void spreadToMore() {
            for (int bits = 0; bits < 1 << chosen; bits++) {
                for (int i = 0; i < chosen; i++) {
                    int more = bits | 1 << i;
                    quarrels[more] = quarrels[more] || quarrels[bits];
                }
            }
        }

        private boolean isCheaper(int bits, int than) {
            int cost = worthOf(bits);
            int other = worthOf(than);
            return cost < other || cost == other && Integer.bitCount(bits) < Integer.bitCount(than);
        }

        private int worthOf(int bits) {
            int sum = 0;
            for (int i = 0; i < chosen; i++) {
                Likeness it = choices[i];
                if (it != null && (bits >> i & 1) == 1) {
                    sum += it.worth;
                }
            }
            return sum;
        }

        private long byNumbers(int bits) {
            long numbers = 0;
            for (int i = 0; i < chosen; i++) {
                Likeness it = choices[i];
                if (it != null && (bits >> i & 1) == 1) {
                    numbers |= 1L << it.number;
                }
            }
            return numbers;
        }
    }

    /** A search through likenesses, row by row, the lesser numbers first. */
    private static final class Trail {
        static final int TURNED = 100;
        private static final int LONGEST_WAY = MEASURES - 1;
        private static final int FAR = 100;

        final Likeness[] open = new Likeness[MOST_LIKENESSES];
        int opened;
        final int[] row = new int[MEASURES];
        int length;
        boolean over;
        private final Fraction[] lows = new Fraction[MEASURES + 1];
        private final Fraction[] highs = new Fraction[MEASURES + 1];
        private final int[] distance = new int[MEASURES];
        private int target;
        private int firstOpen;
        private int limit;

        Trail() {
            for (int i = 0; i <= MEASURES; i++) {
                lows[i] = new Fraction();
                highs[i] = new Fraction();
            }
            lows[0].become(1, 1);
            highs[0].become(1, 1);
        }

        void admit(Likeness it) {
            if (opened < MOST_LIKENESSES) {
                open[opened] = it;
                opened++;
            }
        }

        Fraction low() {
            return lows[length];
        }

        Fraction high() {
            return highs[length];
        }

        int numberAt(int i) {
            return row[i] % TURNED;
        }

        void seekWays(int from, int to, Goal goal) {
            aim(to, 0);
            limit = LONGEST_WAY;
            extend(this, goal, from, 1 << from, 0);
        }

        /** Whether there is a way k; then it is the row. */
        boolean pickWay(int from, int to, int k, Picking goal) {
            aim(to, 0);
            goal.passed = k;
            for (int wanted = distance[from]; wanted <= LONGEST_WAY && !over; wanted++) {
                goal.wanted = wanted;
                limit = wanted;
                extend(this, goal, from, 1 << from, 0);
            }
            return over;
        }

        /** Each ring begins with its least number, so the rest of it has greater ones alone. */
        void seekRings(Goal goal) {
            over = false;
            for (int i = 0; i < 2 * opened && !over; i++) {
                Likeness it = open[i / 2];
                if (it != null) {
                    boolean turned = i % 2 == 1;
                    int from = turned ? it.a : it.b;
                    aim(turned ? it.b : it.a, i / 2 + 1);
                    limit = MEASURES;
                    take(it, turned, 0);
                    extend(this, goal, from, 1 << from, 1);
                }
            }
        }

        private void aim(int to, int first) {
            target = to;
            firstOpen = first;
            over = false;
            measureDistances();
        }

        /** Distances to the target keep the search from rows that can't arrive in time. */
        private void measureDistances() {
            Arrays.fill(distance, FAR);
            distance[target] = 0;
            boolean changed = true;
            for (int round = 0; round < MEASURES && changed; round++) {
                changed = false;
                for (int i = firstOpen; i < opened; i++) {
                    Likeness it = open[i];
                    if (it != null) {
                        changed |= draw(it.a, it.b);
                        changed |= draw(it.b, it.a);
                    }
                }
            }
        }

        private boolean draw(int measure, int next) {
            if (distance[next] + 1 >= distance[measure]) {
                return false;
            }
            distance[measure] = distance[next] + 1;
            return true;
        }

        private void take(Likeness it, boolean turned, int depth) {
            row[depth] = turned ? it.number + TURNED : it.number;
            if (turned) {
                lows[depth + 1].becomeProduct(lows[depth], it.high.below, it.high.above);
                highs[depth + 1].becomeProduct(highs[depth], it.low.below, it.low.above);
            } else {
                lows[depth + 1].becomeProduct(lows[depth], it.low.above, it.low.below);
                highs[depth + 1].becomeProduct(highs[depth], it.high.above, it.high.below);
            }
        }

        /** Goes on from a measure in each way that meets no measure twice; met is bits by measures. */
        private static void extend(Trail trail, Goal goal, int at, int met, int depth) {
            if (at == trail.target) {
                trail.length = depth;
                goal.arrived(trail);
                return;
            }
            if (depth >= trail.limit) {
                return;
            }
            for (int i = trail.firstOpen; i < trail.opened && !trail.over; i++) {
                Likeness it = trail.open[i];
                if (it == null) {
                    continue;
                }
                int next = it.across(at);
                if (next >= 0 && (met >> next & 1) == 0
                        && depth + 1 + trail.distance[next] <= trail.limit) {
                    trail.take(it, at != it.a, depth);
                    extend(trail, goal, next, met | 1 << next, depth + 1);
                }
            }
        }
    }

    /** How a sum is parted: each step tells how many of the next lesser part make one of this. */
    private static final class Custom {
        private static final int GROUP = 1000;

        final int[] steps = new int[MOST_STEPS];
        int size;
        boolean missing = true;

        Custom() {
            Arrays.fill(steps, LEAST_STEP);
        }

        void begin(int n) {
            missing = false;
            size = n;
            Arrays.fill(steps, LEAST_STEP);
        }

        long partOf(long v, int i) {
            long left = v;
            for (int s = size - 1; s >= i; s--) {
                left /= stepAt(s);
            }
            return i == 0 ? left : left % stepAt(i - 1);
        }

        long putTogether(long parts) {
            long left = parts;
            long worth = 1;
            long sum = 0;
            for (int i = size; i >= 0; i--) {
                sum += left % GROUP * worth;
                left /= GROUP;
                if (i > 0) {
                    worth *= stepAt(i - 1);
                }
            }
            return sum;
        }

        /** Never below LEAST_STEP, so that it may divide. */
        private int stepAt(int place) {
            return place >= 0 && place < MOST_STEPS ? Math.max(steps[place], LEAST_STEP) : LEAST_STEP;
        }
    }

    /** A line of the account, with the ends of its way to the measure that is reckoned in. */
    private static final class Line {
        final int measure;
        final int place;
        final int day;
        final Fraction low = new Fraction();
        final Fraction high = new Fraction();
        int amount;

        Line(int amount, int measure, int place, int day) {
            this.amount = amount;
            this.measure = measure;
            this.place = place;
            this.day = day;
        }

        static boolean canBe(int form, int amount) {
            if (form == TWICE || form == OUT) {
                return true;
            }
            return form == TWELVE_FOR_TEN ? amount % 10 == 0 : amount % 12 == 0;
        }

        static long amended(int form, int amount) {
            if (form == TWICE) {
                return 2L * amount;
            }
            if (form == OUT) {
                return 0;
            }
            return form == TWELVE_FOR_TEN ? amount / 10 * 12L : amount / 12 * 10L;
        }
    }
}
