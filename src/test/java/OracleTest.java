import java.math.BigInteger;
import java.util.ArrayList;
import java.util.Arrays;
import java.util.List;
import java.util.Map;
import java.util.Random;
import java.util.TreeMap;

/**
 * Runs of calls with chance arguments, from fixed seeds, on the class and on a reckoner that takes the
 * document's words as they stand: it lists all ways and rings, and reckons with numbers of any size.
 */
public final class OracleTest {
    private static final int RUNS = 1200;
    private static final int CALLS = 400;
    private static final int SHOWN = 10;

    /** What runs are like: mixed, mostly doubtful, of many measures, of great numbers, of many likenesses. */
    private static final int PROFILES = 5;
    private static final int DOUBTFUL_ONES = 1;
    private static final int GREAT_NUMBERS = 3;
    private static final int MANY_LIKENESSES = 4;

    private final OldReckoner tried = new OldReckoner();
    private final Plain plain = new Plain();
    private final List<String> calls = new ArrayList<>();
    private final Random chance;
    private final int profile;
    private final int measures;
    private final int most;
    private final Map<String, Integer> kindsOfAnswers;
    private boolean wrong;

    private OracleTest(int seed, Map<String, Integer> kindsOfAnswers) {
        chance = new Random(seed);
        profile = seed % PROFILES;
        measures = new int[] {3 + chance.nextInt(3), 3 + chance.nextInt(3), 10, 7, 3}[profile];
        most = new int[] {5 + chance.nextInt(8), 5 + chance.nextInt(7), 16, 12, 24}[profile];
        this.kindsOfAnswers = kindsOfAnswers;
    }

    public static void main(String[] args) {
        Map<String, Integer> answers = new TreeMap<>();
        int wrongRuns = 0;
        for (int seed = 0; seed < RUNS; seed++) {
            OracleTest run = new OracleTest(seed, answers);
            for (int i = 0; i < CALLS && !run.wrong; i++) {
                run.call();
            }
            if (run.wrong) {
                wrongRuns++;
                System.out.println("seed " + seed + ", the last of:\n  " + String.join("\n  ", run.calls));
            }
            if (wrongRuns >= SHOWN) {
                break;
            }
        }
        System.out.println(answers);
        System.out.println(RUNS + " runs, " + wrongRuns + " with a wrong answer");
        if (wrongRuns != 0) {
            System.exit(1);
        }
    }

    private void same(String call, long got, long want, boolean changes) {
        String name = call.substring(0, call.indexOf('('));
        kindsOfAnswers.merge(name + " " + answerName(want), 1, Integer::sum);
        if (changes || got != want) {
            calls.add(call + " = " + got);
        }
        if (got != want) {
            wrong = true;
            calls.add("due is " + want);
        }
    }

    private static String answerName(long v) {
        if (v == OldReckoner.BAD) {
            return "BAD";
        }
        if (v == OldReckoner.NO) {
            return "NO";
        }
        if (v == OldReckoner.FULL) {
            return "FULL";
        }
        if (v == OldReckoner.LARGE) {
            return "LARGE";
        }
        if (v == OldReckoner.NONE) {
            return "NONE";
        }
        if (v == OldReckoner.NOTHING || v == OldReckoner.INDEX || v == OldReckoner.SIZE) {
            return "FINDING";
        }
        return v == 0 ? "0" : "ok";
    }

    /** Mostly from low to high, now and then just or far beyond. */
    private int pick(int low, int high) {
        int turn = chance.nextInt(120);
        if (turn == 0) {
            return low - 1;
        }
        if (turn == 1) {
            return high + 1;
        }
        if (turn == 2) {
            return chance.nextInt();
        }
        if (turn < 6) {
            return turn % 2 == 0 ? low : high;
        }
        return low + chance.nextInt(high - low + 1);
    }

    private int pair() {
        return chance.nextInt(100) == 0 ? pick(0, 99) : 10 * chance.nextInt(measures) + chance.nextInt(measures);
    }

    private int term() {
        int[] small = {1, 2, 3, 4, 6, 1, 2};
        int[] great = {997, 991, 1000, 983, 977, 500, 1};
        if (profile == GREAT_NUMBERS) {
            return chance.nextInt(100) == 0 ? pick(1, 1000) : great[chance.nextInt(great.length)];
        }
        return chance.nextInt(10) == 0 ? pick(1, 1000) : small[chance.nextInt(small.length)];
    }

    private int kind() {
        return profile == DOUBTFUL_ONES && chance.nextInt(4) > 0 ? 2 + 2 * chance.nextInt(2) : pick(0, 4);
    }

    private int place() {
        return chance.nextInt(10) == 0 ? pick(0, 7) : chance.nextInt(profile == GREAT_NUMBERS ? 1 : 3);
    }

    private int day() {
        return chance.nextInt(20) == 0 ? pick(0, 9999) : chance.nextInt(profile == GREAT_NUMBERS ? 1 : 4);
    }

    private int placeAndDay() {
        return chance.nextInt(100) == 0 ? pick(0, 79999) : 10000 * chance.nextInt(4) + chance.nextInt(4);
    }

    private int known() {
        return pick(0, Math.max(0, plain.likenesses.size() - 1));
    }

    private void call() {
        int turn = chance.nextInt(100);
        if (turn < 32) {
            callOnLikenesses(chance.nextInt(16));
        } else if (turn < 68) {
            callOnWays(chance.nextInt(7));
        } else if (turn < 76) {
            callOnCustoms(chance.nextInt(5));
        } else {
            callOnAccount(chance.nextInt(9));
        }
    }

    private void callOnLikenesses(int which) {
        int n = known();
        int a = place();
        int b = chance.nextInt(3) == 0 ? pick(0, 7) : chance.nextInt(Math.max(1, a));
        int day = day();
        int last = chance.nextInt(3) == 0 ? 9999 : day + chance.nextInt(4);
        int v = pick(0, chance.nextInt(4) == 0 ? 500 : 20);
        int kind = kind();
        switch (which) {
            case 0:
                a = pick(1, 7);
                same("lies(" + a + ", " + b + ")", tried.lies(a, b), plain.lies(a, b), true);
                break;
            case 1:
                same("within(" + a + ", " + b + ")", tried.within(a, b), plain.within(a, b), false);
                break;
            case 2: case 3: case 4: case 5: case 6:
                if (plain.likenesses.size() < most || chance.nextInt(40) == 0) {
                    int ab = pair();
                    int p = term();
                    int q = term();
                    same("likeness(" + kind + ", " + ab + ", " + p + ", " + q + ")",
                            tried.likeness(kind, ab, p, q), plain.likeness(kind, ab, p, q), true);
                }
                break;
            case 7:
                same("holds(" + n + ", " + a + ", " + day + ", " + last + ")",
                        tried.holds(n, a, day, last), plain.holds(n, a, day, last), true);
                break;
            case 8: case 9:
                int worth = pick(0, chance.nextInt(3) == 0 ? 100 : 3);
                same("doubt(" + n + ", " + worth + ", " + v + ")",
                        tried.doubt(n, worth, v), plain.doubt(n, worth, v), true);
                break;
            case 10:
                int on = pick(0, 1);
                same("drop(" + n + ", " + on + ")", tried.drop(n, on), plain.drop(n, on), true);
                break;
            case 11:
                if (profile != MANY_LIKENESSES || chance.nextInt(10) == 0) {
                    same("forget()", tried.forget(), plain.forget(), true);
                }
                break;
            case 12:
                int what = pick(0, 10);
                same("told(" + n + ", " + what + ")", tried.told(n, what), plain.told(n, what), false);
                break;
            case 13:
                same("isOf(" + n + ", " + kind + ")", tried.isOf(n, kind), plain.isOf(n, kind), false);
                break;
            case 14:
                int end = pick(0, 1);
                int part = pick(0, 1);
                same("end(" + n + ", " + end + ", " + part + ")",
                        tried.end(n, end, part), plain.end(n, end, part), false);
                break;
            default:
                same("counts(" + n + ", " + a + ", " + day + ")",
                        tried.counts(n, a, day), plain.counts(n, a, day), false);
                break;
        }
    }

    private void callOnWays(int which) {
        int ab = pair();
        int at = placeAndDay();
        int end = pick(0, 1);
        int part = pick(0, 1);
        int i = pick(0, 2);
        String args = "(" + ab + ", " + at + ", " + end + ", " + part + ")";
        switch (which) {
            case 0:
                same("ways(" + ab + ", " + at + ")", tried.ways(ab, at), plain.ways(ab, at), false);
                break;
            case 1:
                long many = plain.ways(ab, at);
                int k = pick(0, many > 0 ? (int) many : 1);
                same("way(" + ab + ", " + at + ", " + k + ", " + i + ")",
                        tried.way(ab, at, k, i), plain.way(ab, at, k, i), false);
                break;
            case 2:
                same("factor" + args, tried.factor(ab, at, end, part), plain.factor(ab, at, end, part), false);
                break;
            case 3:
                same("span" + args, tried.span(ab, at, end, part), plain.span(ab, at, end, part), false);
                break;
            case 4:
                same("quarrel(" + at + ", " + i + ")", tried.quarrel(at, i), plain.quarrel(at, i), false);
                break;
            case 5:
                same("cure(" + at + ")", tried.cure(at), plain.cure(at), false);
                break;
            default:
                if (chance.nextInt(4) == 0) {
                    same("heal(" + at + ")", tried.heal(at), plain.heal(at), true);
                }
                break;
        }
    }

    private void callOnCustoms(int which) {
        int c = pick(0, 3);
        int d = pick(0, 3);
        int n = pick(0, 5);
        int v = pick(2, 1000);
        long number = chance.nextInt(20) == 0 ? chance.nextLong()
                : (chance.nextLong() >> 1) % (chance.nextInt(2) == 0 ? 1000000L : 1000000000000001L);
        switch (which) {
            case 0:
                same("custom(" + c + ", " + n + ")", tried.custom(c, n), plain.custom(c, n), true);
                break;
            case 1:
                same("step(" + c + ", " + n + ", " + v + ")", tried.step(c, n, v), plain.step(c, n, v), true);
                break;
            case 2:
                same("copy(" + c + ", " + d + ", " + n + ")", tried.copy(c, d, n), plain.copy(c, d, n), true);
                break;
            case 3:
                same("part(" + c + ", " + number + ", " + n + ")",
                        tried.part(c, number, n), plain.part(c, number, n), false);
                break;
            default:
                long parts = chance.nextInt(5) == 0 ? number : Math.floorMod(chance.nextLong(), 1000000000000000000L);
                same("whole(" + c + ", " + parts + ")", tried.whole(c, parts), plain.whole(c, parts), false);
                break;
        }
    }

    private void callOnAccount(int which) {
        int amount = amount();
        int m = chance.nextInt(40) == 0 ? pick(0, 9) : chance.nextInt(measures);
        int at = place();
        int day = day();
        switch (which) {
            case 0: case 1:
                if (plain.lines.size() < 6 || profile == MANY_LIKENESSES || chance.nextInt(20) == 0) {
                    same("line(" + amount + ", " + m + ", " + at + ", " + day + ")",
                            tried.line(amount, m, at, day), plain.line(amount, m, at, day), true);
                }
                break;
            case 2:
                int n = pick(0, Math.max(0, plain.lines.size() - 1));
                same("amend(" + n + ", " + amount + ")", tried.amend(n, amount), plain.amend(n, amount), true);
                break;
            case 3:
                if (chance.nextInt(3) == 0) {
                    same("clear()", tried.clear(), plain.clear(), true);
                }
                break;
            case 4: case 5:
                int end = pick(0, 1);
                int part = pick(0, 1);
                same("total(" + m + ", " + end + ", " + part + ")",
                        tried.total(m, end, part), plain.total(m, end, part), false);
                break;
            case 6: case 7:
                int told = chance.nextInt(4) == 0 ? pick(-1000000000, 1000000000) : plain.likelyTotal(m, chance);
                same("slip(" + m + ", " + told + ")", tried.slip(m, told), plain.slip(m, told), false);
                break;
            default:
                int what = pick(0, 4);
                same("count(" + what + ")", tried.count(what), plain.count(what), false);
                break;
        }
    }

    private int amount() {
        int turn = chance.nextInt(5);
        if (turn == 0) {
            return pick(-1000000, 1000000);
        }
        return turn == 1 ? 60 * (chance.nextInt(11) - 5) : chance.nextInt(81) - 40;
    }
}

/** A fraction of numbers of any size; null stands for a LARGE one. */
final class Ratio {
    static final BigInteger LIMIT = BigInteger.TEN.pow(15);
    static final BigInteger SUM_LIMIT = BigInteger.TEN.pow(18);
    final BigInteger above;
    final BigInteger below;

    private Ratio(BigInteger above, BigInteger below) {
        this.above = above;
        this.below = below;
    }

    static Ratio of(BigInteger a, BigInteger b) {
        BigInteger g = a.gcd(b);
        Ratio it = new Ratio(a.divide(g), b.divide(g));
        return it.above.abs().compareTo(LIMIT) >= 0 || it.below.compareTo(LIMIT) >= 0 ? null : it;
    }

    static Ratio of(long a, long b) {
        return of(BigInteger.valueOf(a), BigInteger.valueOf(b));
    }

    static Ratio product(Ratio x, Ratio y) {
        return x == null || y == null ? null : of(x.above.multiply(y.above), x.below.multiply(y.below));
    }

    static Ratio oneBy(Ratio x) {
        return of(x.below, x.above);
    }

    static Ratio sum(Ratio x, Ratio y) {
        if (x == null || y == null) {
            return null;
        }
        BigInteger g = x.below.gcd(y.below);
        BigInteger left = x.above.multiply(y.below.divide(g));
        BigInteger right = y.above.multiply(x.below.divide(g));
        BigInteger under = x.below.multiply(y.below.divide(g));
        for (BigInteger it : new BigInteger[] {left, right, under}) {
            if (it.abs().compareTo(SUM_LIMIT) >= 0) {
                return null;
            }
        }
        return of(left.add(right), under);
    }

    int compareTo(Ratio other) {
        return above.multiply(other.below).compareTo(other.above.multiply(below));
    }

    long part(int part) {
        return (part == 0 ? above : below).longValueExact();
    }
}

/** The document, word by word. */
final class Plain {
    static final class Like {
        int kind;
        int a;
        int b;
        int p;
        int q;
        int place;
        int first;
        int last = 9999;
        int worth = 1;
        int spread;
        boolean dropped;

        boolean isDoubtful() {
            return kind == 2 || kind == 4;
        }

        boolean isHeaped() {
            return kind == 1 || kind == 3;
        }

        Ratio end(int end) {
            Ratio it = Ratio.of(p, q);
            if (isHeaped()) {
                it = Ratio.product(it, Ratio.of(1000 + spread, 1000));
            }
            if (isDoubtful()) {
                it = Ratio.product(it, Ratio.of(end == 0 ? 1000 - spread : 1000 + spread, 1000));
            }
            if (kind == 4) {
                it = Ratio.product(it, end == 0 ? Ratio.of(1, 2) : Ratio.of(2, 1));
            }
            return it;
        }
    }

    final int[] in = new int[8];
    final List<Like> likenesses = new ArrayList<>();
    final int[][] customs = new int[4][];
    final List<int[]> lines = new ArrayList<>();

    private static boolean out(long v, long low, long high) {
        return v < low || v > high;
    }

    private boolean unknown(int n) {
        return out(n, 0, likenesses.size() - 1);
    }

    long lies(int place, int where) {
        if (out(place, 1, 7) || out(where, 0, 7) || where >= place) {
            return OldReckoner.BAD;
        }
        long was = in[place];
        in[place] = where;
        return was;
    }

    boolean lieWithin(int place, int where) {
        return place == where || place != 0 && lieWithin(in[place], where);
    }

    long within(int place, int where) {
        return out(place, 0, 7) || out(where, 0, 7) ? OldReckoner.BAD : lieWithin(place, where) ? 1 : 0;
    }

    long likeness(int kind, int ab, int p, int q) {
        if (out(kind, 0, 4) || out(ab, 0, 99) || out(p, 1, 1000) || out(q, 1, 1000)) {
            return OldReckoner.BAD;
        }
        if (likenesses.size() == 24) {
            return OldReckoner.FULL;
        }
        Like it = new Like();
        it.kind = kind;
        it.a = ab / 10;
        it.b = ab % 10;
        it.p = p;
        it.q = q;
        likenesses.add(it);
        return likenesses.size() - 1;
    }

    long holds(int n, int place, int first, int last) {
        if (unknown(n) || out(place, 0, 7) || out(first, 0, 9999) || out(last, 0, 9999) || first > last) {
            return OldReckoner.BAD;
        }
        likenesses.get(n).place = place;
        likenesses.get(n).first = first;
        likenesses.get(n).last = last;
        return 0;
    }

    long doubt(int n, int worth, int spread) {
        if (unknown(n) || out(worth, 0, 100) || out(spread, 0, 500)) {
            return OldReckoner.BAD;
        }
        likenesses.get(n).worth = worth;
        likenesses.get(n).spread = spread;
        return 0;
    }

    long drop(int n, int on) {
        if (unknown(n) || out(on, 0, 1)) {
            return OldReckoner.BAD;
        }
        Like it = likenesses.get(n);
        if (!it.isDoubtful()) {
            return OldReckoner.NO;
        }
        long was = it.dropped ? 1 : 0;
        it.dropped = on == 1;
        return was;
    }

    long forget() {
        if (likenesses.isEmpty()) {
            return OldReckoner.NO;
        }
        likenesses.remove(likenesses.size() - 1);
        return likenesses.size();
    }

    long told(int n, int what) {
        if (unknown(n) || out(what, 0, 10)) {
            return OldReckoner.BAD;
        }
        Like it = likenesses.get(n);
        return new int[] {it.kind, it.a, it.b, it.p, it.q, it.place, it.first, it.last, it.worth, it.spread,
            it.dropped ? 1 : 0}[what];
    }

    long isOf(int n, int kind) {
        if (unknown(n) || out(kind, 0, 4)) {
            return OldReckoner.BAD;
        }
        Like it = likenesses.get(n);
        return kind == 0 || kind == it.kind || kind == 1 && it.isHeaped() || kind == 2 && it.isDoubtful() ? 1 : 0;
    }

    long end(int n, int end, int part) {
        return unknown(n) || out(end, 0, 1) || out(part, 0, 1) ? OldReckoner.BAD
                : likenesses.get(n).end(end).part(part);
    }

    boolean isCounted(int n, int place, int day) {
        Like it = likenesses.get(n);
        boolean there = it.kind == 3 ? place == it.place : lieWithin(place, it.place);
        return !it.dropped && !out(day, it.first, it.last) && there;
    }

    long counts(int n, int place, int day) {
        return unknown(n) || out(place, 0, 7) || out(day, 0, 9999) ? OldReckoner.BAD
                : isCounted(n, place, day) ? 1 : 0;
    }

    /** All ways, in order; a way is a row of numbers, of turned ones 100 more. */
    List<int[]> allWays(int from, int to, int at) {
        List<int[]> found = new ArrayList<>();
        boolean[] met = new boolean[10];
        met[from] = true;
        goOn(found, new int[0], from, to, met, at);
        found.sort((x, y) -> x.length != y.length ? x.length - y.length : compareNumbers(x, y));
        return found;
    }

    static int compareNumbers(int[] x, int[] y) {
        for (int i = 0; i < x.length; i++) {
            if (x[i] % 100 != y[i] % 100) {
                return x[i] % 100 - y[i] % 100;
            }
        }
        return 0;
    }

    private void goOn(List<int[]> found, int[] row, int here, int to, boolean[] met, int at) {
        if (here == to) {
            found.add(row);
            return;
        }
        for (int n = likenesses.size() - 1; n >= 0; n--) {
            Like it = likenesses.get(n);
            for (int turned = 0; turned <= 1; turned++) {
                int begin = turned == 0 ? it.a : it.b;
                int next = turned == 0 ? it.b : it.a;
                if (begin == here && !met[next] && isCounted(n, at / 10000, at % 10000)) {
                    met[next] = true;
                    goOn(found, more(row, n + 100 * turned), next, to, met, at);
                    met[next] = false;
                }
            }
        }
    }

    static int[] more(int[] row, int v) {
        int[] longer = Arrays.copyOf(row, row.length + 1);
        longer[row.length] = v;
        return longer;
    }

    Ratio ends(int[] row, int end) {
        Ratio product = Ratio.of(1, 1);
        for (int v : row) {
            Like it = likenesses.get(v % 100);
            product = Ratio.product(product, v < 100 ? it.end(end) : Ratio.oneBy(it.end(1 - end)));
        }
        return product;
    }

    private static boolean badPairAt(int ab, int at) {
        return out(ab, 0, 99) || out(at, 0, 79999);
    }

    long ways(int ab, int at) {
        return badPairAt(ab, at) ? OldReckoner.BAD : allWays(ab / 10, ab % 10, at).size();
    }

    long way(int ab, int at, int k, int i) {
        if (badPairAt(ab, at) || k < 0 || i < 0) {
            return OldReckoner.BAD;
        }
        List<int[]> found = allWays(ab / 10, ab % 10, at);
        return k >= found.size() || i >= found.get(k).length ? OldReckoner.NONE : found.get(k)[i];
    }

    long factor(int ab, int at, int end, int part) {
        if (badPairAt(ab, at) || out(end, 0, 1) || out(part, 0, 1)) {
            return OldReckoner.BAD;
        }
        List<int[]> found = allWays(ab / 10, ab % 10, at);
        if (found.isEmpty()) {
            return OldReckoner.NONE;
        }
        if (ends(found.get(0), 0) == null || ends(found.get(0), 1) == null) {
            return OldReckoner.LARGE;
        }
        return ends(found.get(0), end).part(part);
    }

    long span(int ab, int at, int end, int part) {
        if (badPairAt(ab, at) || out(end, 0, 1) || out(part, 0, 1)) {
            return OldReckoner.BAD;
        }
        Ratio best = null;
        for (int[] row : allWays(ab / 10, ab % 10, at)) {
            Ratio it = ends(row, end);
            if (it == null || ends(row, 1 - end) == null) {
                return OldReckoner.LARGE;
            }
            if (best == null || (end == 0 ? it.compareTo(best) < 0 : it.compareTo(best) > 0)) {
                best = it;
            }
        }
        return best == null ? OldReckoner.NONE : best.part(part);
    }

    /** All rings, each beginning with its least number. */
    List<int[]> allRings(int at) {
        List<int[]> found = new ArrayList<>();
        for (int from = 0; from < 10; from++) {
            for (int n = 0; n < likenesses.size(); n++) {
                Like it = likenesses.get(n);
                if (!isCounted(n, at / 10000, at % 10000)) {
                    continue;
                }
                if (it.a == it.b && it.a == from) {
                    found.add(new int[] {n});
                    found.add(new int[] {n + 100});
                }
                for (int turned = 0; turned <= 1 && it.a != it.b; turned++) {
                    int begin = turned == 0 ? it.a : it.b;
                    int back = turned == 0 ? it.b : it.a;
                    if (back == from) {
                        for (int[] row : allWays(from, begin, at)) {
                            addRing(found, row, n + 100 * turned);
                        }
                    }
                }
            }
        }
        return found;
    }

    private static void addRing(List<int[]> found, int[] way, int last) {
        for (int v : way) {
            if (v % 100 == last % 100 || v % 100 < way[0] % 100) {
                return;
            }
        }
        if (last % 100 > way[0] % 100) {
            found.add(more(way, last));
        }
    }

    /** The rings that are quarrels; null if some ring is LARGE. */
    List<int[]> allQuarrels(int at) {
        List<int[]> found = new ArrayList<>();
        for (int[] ring : allRings(at)) {
            Ratio low = ends(ring, 0);
            if (low == null || ends(ring, 1) == null) {
                return null;
            }
            if (low.compareTo(Ratio.of(1, 1)) > 0) {
                found.add(ring);
            }
        }
        return found;
    }

    long quarrel(int at, int i) {
        if (out(at, 0, 79999) || i < 0) {
            return OldReckoner.BAD;
        }
        List<int[]> found = allQuarrels(at);
        if (found == null) {
            return OldReckoner.LARGE;
        }
        found.sort((x, y) -> x.length != y.length ? x.length - y.length : compareNumbers(x, y));
        return found.isEmpty() || i >= found.get(0).length ? OldReckoner.NONE : found.get(0)[i];
    }

    long cure(int at) {
        if (out(at, 0, 79999)) {
            return OldReckoner.BAD;
        }
        List<Integer> choices = new ArrayList<>();
        for (int n = 0; n < likenesses.size(); n++) {
            if (likenesses.get(n).isDoubtful() && isCounted(n, at / 10000, at % 10000)) {
                choices.add(n);
            }
        }
        List<int[]> quarrels = allQuarrels(at);
        if (quarrels == null || choices.size() > 10) {
            return OldReckoner.LARGE;
        }
        long[] best = null;
        for (int set = 0; set < 1 << choices.size(); set++) {
            long[] it = {0, 0, 0};
            for (int i = 0; i < choices.size(); i++) {
                if ((set >> i & 1) == 1) {
                    it[0] += likenesses.get(choices.get(i)).worth;
                    it[1]++;
                    it[2] += 1L << choices.get(i);
                }
            }
            if (leavesNone(quarrels, it[2]) && (best == null || Arrays.compare(it, best) < 0)) {
                best = it;
            }
        }
        return best == null ? OldReckoner.NONE : best[2];
    }

    private static boolean leavesNone(List<int[]> quarrels, long dropped) {
        for (int[] ring : quarrels) {
            boolean broken = false;
            for (int v : ring) {
                broken |= (dropped >> v % 100 & 1) == 1;
            }
            if (!broken) {
                return false;
            }
        }
        return true;
    }

    long heal(int at) {
        long cure = cure(at);
        if (cure < 0) {
            return cure;
        }
        int many = 0;
        for (int n = 0; n < likenesses.size(); n++) {
            if ((cure >> n & 1) == 1) {
                likenesses.get(n).dropped = true;
                many++;
            }
        }
        return many;
    }

    long custom(int c, int n) {
        if (out(c, 0, 3) || n > 5) {
            return OldReckoner.BAD;
        }
        if (n < 0) {
            return OldReckoner.SIZE;
        }
        customs[c] = new int[n];
        Arrays.fill(customs[c], 2);
        return n;
    }

    long step(int c, int place, int v) {
        if (out(c, 0, 3)) {
            return OldReckoner.BAD;
        }
        if (customs[c] == null) {
            return OldReckoner.NOTHING;
        }
        if (out(place, 0, customs[c].length - 1)) {
            return OldReckoner.INDEX;
        }
        if (out(v, 2, 1000)) {
            return OldReckoner.BAD;
        }
        long was = customs[c][place];
        customs[c][place] = v;
        return was;
    }

    long copy(int from, int to, int many) {
        if (out(from, 0, 3) || out(to, 0, 3)) {
            return OldReckoner.BAD;
        }
        if (customs[from] == null || customs[to] == null) {
            return OldReckoner.NOTHING;
        }
        if (many < 0 || many > customs[from].length || many > customs[to].length) {
            return OldReckoner.INDEX;
        }
        System.arraycopy(customs[from], 0, customs[to], 0, many);
        return many;
    }

    long part(int c, long v, int i) {
        if (out(c, 0, 3) || out(v, -1000000000000000L, 1000000000000000L)) {
            return OldReckoner.BAD;
        }
        if (customs[c] == null) {
            return OldReckoner.NOTHING;
        }
        if (out(i, 0, customs[c].length)) {
            return OldReckoner.INDEX;
        }
        long[] parts = new long[customs[c].length + 1];
        long left = Math.abs(v);
        for (int at = parts.length - 1; at > 0; at--) {
            parts[at] = left % customs[c][at - 1];
            left = left / customs[c][at - 1];
        }
        parts[0] = left;
        return v < 0 ? -parts[i] : parts[i];
    }

    long whole(int c, long parts) {
        if (out(c, 0, 3) || out(parts, 0, 999999999999999999L)) {
            return OldReckoner.BAD;
        }
        if (customs[c] == null) {
            return OldReckoner.NOTHING;
        }
        String digits = String.format("%018d", parts);
        int many = customs[c].length + 1;
        BigInteger sum = BigInteger.ZERO;
        for (int i = 0; i < many; i++) {
            int from = 18 - 3 * (many - i);
            sum = sum.add(new BigInteger(digits.substring(from, from + 3)));
            if (i < many - 1) {
                sum = sum.multiply(BigInteger.valueOf(customs[c][i]));
            }
        }
        return sum.longValueExact();
    }

    long line(int amount, int measure, int place, int day) {
        if (out(amount, -1000000, 1000000) || out(measure, 0, 9) || out(place, 0, 7) || out(day, 0, 9999)) {
            return OldReckoner.BAD;
        }
        if (lines.size() == 20) {
            return OldReckoner.FULL;
        }
        lines.add(new int[] {amount, measure, place, day});
        return lines.size() - 1;
    }

    long amend(int n, int v) {
        if (out(n, 0, lines.size() - 1) || out(v, -1000000, 1000000)) {
            return OldReckoner.BAD;
        }
        long was = lines.get(n)[0];
        lines.get(n)[0] = v;
        return was;
    }

    long clear() {
        long was = lines.size();
        lines.clear();
        return was;
    }

    /** TOTAL's low and high, with one amount changed; null if there is none. A null inside is LARGE. */
    Ratio[] totals(int measure, int changed, long amount) {
        Ratio[] sums = {Ratio.of(0, 1), Ratio.of(0, 1)};
        boolean large = false;
        for (int n = 0; n < lines.size(); n++) {
            int[] line = lines.get(n);
            List<int[]> found = allWays(line[1], measure, 10000 * line[2] + line[3]);
            if (found.isEmpty()) {
                return null;
            }
            long v = n == changed ? amount : line[0];
            for (int end = 0; end <= 1; end++) {
                Ratio by = ends(found.get(0), v < 0 ? 1 - end : end);
                large |= by == null;
                sums[end] = Ratio.sum(sums[end], Ratio.product(Ratio.of(v, 1), by));
            }
        }
        return large || sums[0] == null || sums[1] == null ? new Ratio[2] : sums;
    }

    long total(int measure, int end, int part) {
        if (out(measure, 0, 9) || out(end, 0, 1) || out(part, 0, 1)) {
            return OldReckoner.BAD;
        }
        Ratio[] sums = totals(measure, -1, 0);
        if (sums == null) {
            return OldReckoner.NONE;
        }
        return sums[0] == null ? OldReckoner.LARGE : sums[end].part(part);
    }

    private static boolean isRight(Ratio[] sums, int told) {
        Ratio it = Ratio.of(told, 1);
        return sums[0].compareTo(it) <= 0 && it.compareTo(sums[1]) <= 0;
    }

    /** The amounts to try, in order: cost, line, form, amount. */
    private List<long[]> trials() {
        List<long[]> all = new ArrayList<>();
        for (int n = 0; n < lines.size(); n++) {
            long v = lines.get(n)[0];
            all.add(new long[] {1, n, 1, 2 * v});
            all.add(new long[] {1, n, 2, 0});
            if (v % 10 == 0) {
                all.add(new long[] {2, n, 3, v / 10 * 12});
            }
            if (v % 12 == 0) {
                all.add(new long[] {2, n, 4, v / 12 * 10});
            }
        }
        all.sort((x, y) -> Arrays.compare(x, 0, 3, y, 0, 3));
        return all;
    }

    long slip(int measure, int told) {
        if (out(measure, 0, 9) || out(told, -1000000000, 1000000000)) {
            return OldReckoner.BAD;
        }
        Ratio[] sums = totals(measure, -1, 0);
        if (sums == null) {
            return OldReckoner.NONE;
        }
        if (sums[0] == null) {
            return OldReckoner.LARGE;
        }
        if (isRight(sums, told)) {
            return 0;
        }
        for (long[] it : trials()) {
            Ratio[] changed = totals(measure, (int) it[1], it[3]);
            if (changed[0] == null) {
                return OldReckoner.LARGE;
            }
            if (isRight(changed, told)) {
                return 10 * it[1] + it[2];
            }
        }
        return OldReckoner.NONE;
    }

    /** A told total that is right, or just beside it, with some slip or none. */
    int likelyTotal(int measure, Random chance) {
        List<long[]> all = trials();
        if (out(measure, 0, 9)) {
            return 0;
        }
        long[] it = all.isEmpty() || chance.nextInt(5) == 0 ? new long[] {0, -1, 0, 0}
                : all.get(chance.nextInt(all.size()));
        Ratio[] sums = totals(measure, (int) it[1], it[3]);
        if (sums == null || sums[0] == null) {
            return chance.nextInt(100);
        }
        Ratio sum = sums[chance.nextInt(2)];
        BigInteger near = sum.above.divide(sum.below).add(BigInteger.valueOf(chance.nextInt(3) - 1));
        return near.bitLength() > 29 ? 7 : near.intValueExact();
    }

    long count(int what) {
        long many = 0;
        switch (what) {
            case 0:
                return likenesses.size();
            case 1:
                for (Like it : likenesses) {
                    many += it.dropped ? 1 : 0;
                }
                return many;
            case 2:
                for (int[] it : customs) {
                    many += it == null ? 0 : 1;
                }
                return many;
            case 3:
                return lines.size();
            case 4:
                boolean[] named = new boolean[10];
                for (Like it : likenesses) {
                    named[it.a] = true;
                    named[it.b] = true;
                }
                for (boolean it : named) {
                    many += it ? 1 : 0;
                }
                return many;
            default:
                return OldReckoner.BAD;
        }
    }
}
