import java.math.BigInteger;
import java.util.Arrays;
import java.util.function.LongSupplier;

/** Each promise of the document by itself: ordinary calls, the edges that it names, and what it refuses. */
public final class PromisesTest {
    private static final long BAD = OldReckoner.BAD;
    private static final long NO = OldReckoner.NO;
    private static final long FULL = OldReckoner.FULL;
    private static final long LARGE = OldReckoner.LARGE;
    private static final long NONE = OldReckoner.NONE;
    private static final long NOTHING = OldReckoner.NOTHING;
    private static final long INDEX = OldReckoner.INDEX;
    private static final long SIZE = OldReckoner.SIZE;
    private static final int LEAST = Integer.MIN_VALUE;
    private static final int MOST = Integer.MAX_VALUE;

    private static int wrong;
    private static int asked;

    private PromisesTest() {
    }

    public static void main(String[] args) {
        constants();
        newObject();
        lies();
        within();
        likeness();
        holds();
        doubt();
        drop();
        forget();
        told();
        isOf();
        end();
        counts();
        ways();
        way();
        factor();
        span();
        spanOfNearFractions();
        quarrel();
        quarrelOrder();
        quarrelLarge();
        cure();
        cureChoices();
        heal();
        custom();
        step();
        copy();
        part();
        whole();
        line();
        amend();
        clear();
        total();
        totalLarge();
        slip();
        slipForms();
        slipLarge();
        count();
        System.out.println(asked + " answers, " + wrong + " not as due");
        if (wrong != 0) {
            System.exit(1);
        }
    }

    private static void due(int promise, String call, long got, long want) {
        asked++;
        if (got != want) {
            wrong++;
            System.out.println("promise " + promise + ": " + call + " answered " + got + ", due is " + want);
        }
    }

    /** A refused call answers why, and changes nothing. */
    private static void refused(int promise, OldReckoner x, String call, LongSupplier made, long want) {
        String before = state(x);
        due(promise, call, made.getAsLong(), want);
        if (!state(x).equals(before)) {
            wrong++;
            System.out.println("promise " + promise + ": " + call + " was refused, but changed something");
        }
    }

    /** All that can be seen of an object; what must be changed to be seen is put back. */
    private static String state(OldReckoner x) {
        StringBuilder s = new StringBuilder();
        for (int i = 0; i < 64; i++) {
            s.append(x.within(i / 8, i % 8));
        }
        for (int n = 0; n < x.count(0); n++) {
            for (int what = 0; what <= 10; what++) {
                s.append(' ').append(x.told(n, what));
            }
        }
        for (int c = 0; c < 4; c++) {
            for (int i = 0; i < 5; i++) {
                long before = x.step(c, i, 2);
                s.append(' ').append(before);
                if (before >= 2) {
                    x.step(c, i, (int) before);
                }
            }
        }
        for (int i = 0; i < x.count(3); i++) {
            long before = x.amend(i, 0);
            s.append(' ').append(before);
            x.amend(i, (int) before);
        }
        for (int what = 0; what <= 4; what++) {
            s.append(' ').append(x.count(what));
        }
        return s.toString();
    }

    private static OldReckoner withLikenesses(int[]... kindPairPQ) {
        OldReckoner x = new OldReckoner();
        for (int[] it : kindPairPQ) {
            x.likeness(it[0], it[1], it[2], it[3]);
        }
        return x;
    }

    private static void fraction(int promise, String call, long above, long below, long wantAbove, long wantBelow) {
        due(promise, call + " above", above, wantAbove);
        due(promise, call + " below", below, wantBelow);
    }

    private static void factorIs(OldReckoner x, int pair, int at, int end, long above, long below) {
        fraction(15, "factor(" + pair + ", " + at + ", " + end + ")",
                x.factor(pair, at, end, 0), x.factor(pair, at, end, 1), above, below);
    }

    private static void spanIs(OldReckoner x, int pair, int end, long above, long below) {
        fraction(16, "span(" + pair + ", 0, " + end + ")",
                x.span(pair, 0, end, 0), x.span(pair, 0, end, 1), above, below);
    }

    private static void totalIs(OldReckoner x, int measure, int end, long above, long below) {
        fraction(28, "total(" + measure + ", " + end + ")",
                x.total(measure, end, 0), x.total(measure, end, 1), above, below);
    }

    private static void endIs(OldReckoner x, int n, int end, long above, long below) {
        fraction(11, "end(" + n + ", " + end + ")", x.end(n, end, 0), x.end(n, end, 1), above, below);
    }

    private static void quarrelIs(OldReckoner x, int at, long... row) {
        for (int i = 0; i < row.length; i++) {
            due(17, "quarrel(" + at + ", " + i + ")", x.quarrel(at, i), row[i]);
        }
        due(17, "quarrel(" + at + ", " + row.length + ")", x.quarrel(at, row.length), NONE);
        due(17, "quarrel(" + at + ", most)", x.quarrel(at, MOST), NONE);
    }

    private static void wayIs(OldReckoner x, int pair, int k, long... row) {
        for (int i = 0; i < row.length; i++) {
            due(14, "way(" + pair + ", 0, " + k + ", " + i + ")", x.way(pair, 0, k, i), row[i]);
        }
        due(14, "way(" + pair + ", 0, " + k + ", " + row.length + ")", x.way(pair, 0, k, row.length), NONE);
    }

    private static void constants() {
        due(0, "BAD", BAD, -9000000000000000001L);
        due(0, "NO", NO, -9000000000000000002L);
        due(0, "FULL", FULL, -9000000000000000003L);
        due(0, "LARGE", LARGE, -9000000000000000004L);
        due(0, "NONE", NONE, -9000000000000000005L);
        due(0, "NOTHING", NOTHING, -9000000000000000011L);
        due(0, "INDEX", INDEX, -9000000000000000013L);
        due(0, "SIZE", SIZE, -9000000000000000014L);
    }

    private static void newObject() {
        OldReckoner x = new OldReckoner();
        for (int place = 1; place < 8; place++) {
            due(1, "lies(" + place + ", 0)", x.lies(place, 0), 0);
            for (int in = 1; in < 8; in++) {
                due(1, "within(" + place + ", " + in + ")", x.within(place, in), place == in ? 1 : 0);
            }
        }
        for (int what = 0; what <= 4; what++) {
            due(1, "count(" + what + ")", x.count(what), 0);
        }
        for (int c = 0; c < 4; c++) {
            due(1, "whole(" + c + ", 0)", x.whole(c, 0), NOTHING);
        }
        OldReckoner other = withLikenesses(new int[] {0, 1, 1, 1});
        due(1, "count(0) of one object beside another", x.count(0), 0);
        due(1, "count(0) of the other", other.count(0), 1);
    }

    private static void lies() {
        OldReckoner x = new OldReckoner();
        due(2, "lies(7, 6)", x.lies(7, 6), 0);
        due(2, "lies(6, 5)", x.lies(6, 5), 0);
        due(2, "lies(7, 3)", x.lies(7, 3), 6);
        due(2, "lies(7, 0)", x.lies(7, 0), 3);
        due(2, "lies(7, 0)", x.lies(7, 0), 0);
        due(2, "lies(6, 5)", x.lies(6, 5), 5);
        due(2, "lies(1, 0)", x.lies(1, 0), 0);
        int[][] bad = {{0, 0}, {8, 0}, {-1, 0}, {1, 1}, {3, 3}, {3, 4}, {3, -1}, {7, 7}, {7, 8}, {LEAST, 0}, {MOST, 0},
            {3, LEAST}, {3, MOST}};
        for (int[] b : bad) {
            refused(2, x, "lies(" + b[0] + ", " + b[1] + ")", () -> x.lies(b[0], b[1]), BAD);
        }
    }

    private static void within() {
        OldReckoner x = new OldReckoner();
        for (int place = 2; place < 8; place++) {
            x.lies(place, place - 1);
        }
        for (int place = 0; place < 8; place++) {
            for (int in = 0; in < 8; in++) {
                due(3, "within(" + place + ", " + in + ") in a chain", x.within(place, in), in <= place ? 1 : 0);
            }
        }
        x.lies(5, 2);
        due(3, "within(7, 5)", x.within(7, 5), 1);
        due(3, "within(7, 4)", x.within(7, 4), 0);
        due(3, "within(7, 3)", x.within(7, 3), 0);
        due(3, "within(7, 2)", x.within(7, 2), 1);
        due(3, "within(2, 7)", x.within(2, 7), 0);
        int[][] bad = {{8, 0}, {-1, 0}, {0, 8}, {0, -1}, {LEAST, MOST}, {MOST, 1}};
        for (int[] b : bad) {
            refused(3, x, "within(" + b[0] + ", " + b[1] + ")", () -> x.within(b[0], b[1]), BAD);
        }
    }

    private static void likeness() {
        OldReckoner x = new OldReckoner();
        int[][] bad = {{-1, 1, 1, 1}, {5, 1, 1, 1}, {0, -1, 1, 1}, {0, 100, 1, 1}, {0, 1, 0, 1}, {0, 1, 1001, 1},
            {0, 1, 1, 0}, {0, 1, 1, 1001}, {0, 1, -1, 1}, {0, 1, 1, -1}, {MOST, MOST, MOST, MOST}, {0, LEAST, 1, 1}};
        for (int[] b : bad) {
            refused(4, x, "likeness with " + Arrays.toString(b),
                    () -> x.likeness(b[0], b[1], b[2], b[3]), BAD);
        }
        for (int n = 0; n < 24; n++) {
            due(4, "likeness " + n, x.likeness(n % 5, 99 - n, 1000 - n, n + 1), n);
            long[] want = {n % 5, (99 - n) / 10, (99 - n) % 10, 1000 - n, n + 1, 0, 0, 9999, 1, 0, 0};
            for (int what = 0; what <= 10; what++) {
                due(4, "told(" + n + ", " + what + ")", x.told(n, what), want[what]);
            }
        }
        refused(4, x, "likeness 24", () -> x.likeness(0, 1, 1, 1), FULL);
        refused(9, x, "told(24, 0) of twenty-four", () -> x.told(24, 0), BAD);
        refused(4, x, "likeness, bad and full", () -> x.likeness(0, 1, 1, 0), BAD);
        x.forget();
        due(4, "likeness 23 again", x.likeness(0, 1, 1, 1), 23);
        due(4, "told(23, 4) of the new one", x.told(23, 4), 1);
    }

    private static void holds() {
        OldReckoner x = withLikenesses(new int[] {0, 1, 1, 1}, new int[] {0, 1, 2, 1});
        due(5, "holds(1, 7, 0, 9999)", x.holds(1, 7, 0, 9999), 0);
        due(5, "told(1, 5)", x.told(1, 5), 7);
        due(5, "holds(1, 3, 17, 17)", x.holds(1, 3, 17, 17), 0);
        due(5, "told(1, 5)", x.told(1, 5), 3);
        due(5, "told(1, 6)", x.told(1, 6), 17);
        due(5, "told(1, 7)", x.told(1, 7), 17);
        due(5, "told(0, 5)", x.told(0, 5), 0);
        due(5, "told(0, 7)", x.told(0, 7), 9999);
        int[][] bad = {{2, 0, 0, 0}, {-1, 0, 0, 0}, {1, 8, 0, 0}, {1, -1, 0, 0}, {1, 0, 2, 1}, {1, 0, -1, 1},
            {1, 0, 0, 10000}, {1, 0, 10000, 10000}, {MOST, 0, 0, 0}, {LEAST, 0, 0, 0}, {1, 0, -2, -1},
            {1, 0, 0, -1}};
        for (int[] b : bad) {
            refused(5, x, "holds with " + Arrays.toString(b),
                    () -> x.holds(b[0], b[1], b[2], b[3]), BAD);
        }
        x.forget();
        refused(5, x, "holds of a forgotten one", () -> x.holds(1, 0, 0, 0), BAD);
    }

    private static void doubt() {
        OldReckoner x = withLikenesses(new int[] {2, 1, 1, 1}, new int[] {0, 1, 2, 1});
        due(6, "doubt(0, 100, 500)", x.doubt(0, 100, 500), 0);
        due(6, "told(0, 8)", x.told(0, 8), 100);
        due(6, "told(0, 9)", x.told(0, 9), 500);
        endIs(x, 0, 0, 1, 2);
        endIs(x, 0, 1, 3, 2);
        due(6, "doubt(0, 0, 0)", x.doubt(0, 0, 0), 0);
        due(6, "told(0, 8)", x.told(0, 8), 0);
        due(6, "told(0, 9)", x.told(0, 9), 0);
        endIs(x, 0, 0, 1, 1);
        due(6, "doubt(1, 5, 7) of one that is not doubtful", x.doubt(1, 5, 7), 0);
        due(6, "told(1, 9)", x.told(1, 9), 7);
        int[][] bad = {{2, 0, 0}, {-1, 0, 0}, {0, 101, 0}, {0, -1, 0}, {0, 0, 501}, {0, 0, -1}, {LEAST, MOST, MOST}};
        for (int[] b : bad) {
            refused(6, x, "doubt with " + Arrays.toString(b), () -> x.doubt(b[0], b[1], b[2]), BAD);
        }
    }

    private static void drop() {
        OldReckoner x = withLikenesses(new int[] {0, 1, 1, 1}, new int[] {1, 1, 1, 1}, new int[] {2, 1, 1, 1},
                new int[] {3, 1, 1, 1}, new int[] {4, 1, 1, 1});
        for (int n : new int[] {0, 1, 3}) {
            refused(7, x, "drop(" + n + ", 1)", () -> x.drop(n, 1), NO);
            refused(7, x, "drop(" + n + ", 0)", () -> x.drop(n, 0), NO);
            refused(7, x, "drop(" + n + ", 2): BAD is ahead of NO", () -> x.drop(n, 2), BAD);
        }
        for (int n : new int[] {2, 4}) {
            due(7, "drop(" + n + ", 0)", x.drop(n, 0), 0);
            due(7, "drop(" + n + ", 1)", x.drop(n, 1), 0);
            due(7, "drop(" + n + ", 1)", x.drop(n, 1), 1);
            due(7, "told(" + n + ", 10)", x.told(n, 10), 1);
            due(7, "counts(" + n + ", 0, 0)", x.counts(n, 0, 0), 0);
            refused(7, x, "drop(" + n + ", -1)", () -> x.drop(n, -1), BAD);
            due(7, "drop(" + n + ", 0)", x.drop(n, 0), 1);
            due(7, "counts(" + n + ", 0, 0)", x.counts(n, 0, 0), 1);
        }
        refused(7, x, "drop(5, 1)", () -> x.drop(5, 1), BAD);
        refused(7, x, "drop(-1, 1)", () -> x.drop(-1, 1), BAD);
    }

    private static void forget() {
        OldReckoner x = withLikenesses(new int[] {2, 1, 1, 1}, new int[] {2, 12, 1, 1});
        x.holds(1, 3, 4, 5);
        x.doubt(1, 6, 7);
        x.drop(1, 1);
        due(8, "forget()", x.forget(), 1);
        due(8, "told(1, 0)", x.told(1, 0), BAD);
        due(8, "count(1)", x.count(1), 0);
        due(8, "ways(12, 0)", x.ways(12, 0), 0);
        due(8, "likeness", x.likeness(2, 12, 1, 1), 1);
        long[] want = {2, 1, 2, 1, 1, 0, 0, 9999, 1, 0, 0};
        for (int what = 0; what <= 10; what++) {
            due(8, "told(1, " + what + ") of one at a forgotten one's number", x.told(1, what), want[what]);
        }
        endIs(x, 1, 1, 1, 1);
        due(8, "forget()", x.forget(), 1);
        due(8, "forget()", x.forget(), 0);
        refused(8, x, "forget() with none", x::forget, NO);
        due(8, "likeness", x.likeness(0, 12, 1, 1), 0);
    }

    private static void told() {
        OldReckoner x = withLikenesses(new int[] {4, 37, 11, 13});
        x.holds(0, 2, 100, 200);
        x.doubt(0, 9, 300);
        x.drop(0, 1);
        long[] want = {4, 3, 7, 11, 13, 2, 100, 200, 9, 300, 1};
        for (int what = 0; what <= 10; what++) {
            due(9, "told(0, " + what + ")", x.told(0, what), want[what]);
        }
        int[][] bad = {{0, -1}, {0, 11}, {1, 0}, {-1, 0}, {LEAST, 0}, {0, MOST}};
        for (int[] b : bad) {
            refused(9, x, "told(" + b[0] + ", " + b[1] + ")", () -> x.told(b[0], b[1]), BAD);
        }
    }

    private static void isOf() {
        OldReckoner x = new OldReckoner();
        for (int kind = 0; kind < 5; kind++) {
            x.likeness(kind, 1, 1, 1);
        }
        int[][] want = {{1, 0, 0, 0, 0}, {1, 1, 0, 0, 0}, {1, 0, 1, 0, 0}, {1, 1, 0, 1, 0}, {1, 0, 1, 0, 1}};
        for (int n = 0; n < 5; n++) {
            for (int kind = 0; kind < 5; kind++) {
                due(10, "isOf(" + n + ", " + kind + ")", x.isOf(n, kind), want[n][kind]);
            }
        }
        int[][] bad = {{0, -1}, {0, 5}, {5, 0}, {-1, 0}, {MOST, MOST}};
        for (int[] b : bad) {
            refused(10, x, "isOf(" + b[0] + ", " + b[1] + ")", () -> x.isOf(b[0], b[1]), BAD);
        }
    }

    private static void end() {
        OldReckoner x = new OldReckoner();
        for (int kind = 0; kind < 5; kind++) {
            x.likeness(kind, 1, 6, 4);
            endIs(x, kind, 0, 3, kind == 4 ? 4 : 2);
            endIs(x, kind, 1, 3, kind == 4 ? 1 : 2);
            x.doubt(kind, 1, 200);
        }
        endIs(x, 0, 0, 3, 2);
        endIs(x, 0, 1, 3, 2);
        endIs(x, 1, 0, 9, 5);
        endIs(x, 1, 1, 9, 5);
        endIs(x, 2, 0, 6, 5);
        endIs(x, 2, 1, 9, 5);
        endIs(x, 3, 0, 9, 5);
        endIs(x, 3, 1, 9, 5);
        endIs(x, 4, 0, 3, 5);
        endIs(x, 4, 1, 18, 5);
        x.likeness(4, 1, 997, 991);
        x.doubt(5, 0, 499);
        endIs(x, 5, 0, 997 * 501, 991 * 2000);
        endIs(x, 5, 1, 997 * 1499, 991 * 500);
        int[][] bad = {{6, 0, 0}, {-1, 0, 0}, {0, 2, 0}, {0, -1, 0}, {0, 0, 2}, {0, 0, -1}};
        for (int[] b : bad) {
            refused(11, x, "end with " + Arrays.toString(b), () -> x.end(b[0], b[1], b[2]), BAD);
        }
    }

    private static void counts() {
        OldReckoner x = new OldReckoner();
        x.lies(2, 1);
        x.lies(3, 2);
        for (int kind = 0; kind < 5; kind++) {
            x.likeness(kind, 1, 1, 1);
            x.holds(kind, 2, 10, 20);
            long wider = kind == 3 ? 0 : 1;
            due(12, "counts(" + kind + ", 2, 10)", x.counts(kind, 2, 10), 1);
            due(12, "counts(" + kind + ", 2, 20)", x.counts(kind, 2, 20), 1);
            due(12, "counts(" + kind + ", 2, 9)", x.counts(kind, 2, 9), 0);
            due(12, "counts(" + kind + ", 2, 21)", x.counts(kind, 2, 21), 0);
            due(12, "counts(" + kind + ", 3, 15)", x.counts(kind, 3, 15), wider);
            due(12, "counts(" + kind + ", 1, 15)", x.counts(kind, 1, 15), 0);
            due(12, "counts(" + kind + ", 0, 15)", x.counts(kind, 0, 15), 0);
            due(12, "counts(" + kind + ", 4, 15)", x.counts(kind, 4, 15), 0);
            x.holds(kind, 0, 0, 9999);
            due(12, "counts(" + kind + ", 0, 0)", x.counts(kind, 0, 0), 1);
            due(12, "counts(" + kind + ", 7, 9999)", x.counts(kind, 7, 9999), wider);
        }
        x.drop(2, 1);
        due(12, "counts(2, 0, 0) dropped", x.counts(2, 0, 0), 0);
        x.holds(0, 2, 0, 9999);
        x.lies(3, 0);
        due(12, "counts(0, 3, 0) when 3 lies elsewhere", x.counts(0, 3, 0), 0);
        int[][] bad = {{5, 0, 0}, {-1, 0, 0}, {0, 8, 0}, {0, -1, 0}, {0, 0, 10000}, {0, 0, -1}};
        for (int[] b : bad) {
            refused(12, x, "counts with " + Arrays.toString(b), () -> x.counts(b[0], b[1], b[2]), BAD);
        }
    }

    private static void ways() {
        OldReckoner x = new OldReckoner();
        due(13, "ways(1, 0) with no likenesses", x.ways(1, 0), 0);
        due(13, "ways(11, 0) with no likenesses", x.ways(11, 0), 1);
        for (int a = 0; a < 5; a++) {
            for (int b = a + 1; b < 5; b++) {
                x.likeness(0, a % 2 == 0 ? 10 * a + b : 10 * b + a, 1, 1);
            }
        }
        due(13, "ways(4, 0) among five, each like each", x.ways(4, 0), 16);
        due(13, "ways(40, 0)", x.ways(40, 0), 16);
        due(13, "ways(44, 0)", x.ways(44, 0), 1);
        due(13, "ways(5, 0)", x.ways(5, 0), 0);
        x.likeness(0, 33, 1, 1);
        due(13, "ways(4, 0) with one of 3 and itself", x.ways(4, 0), 16);
        due(13, "ways(33, 0) with one of 3 and itself", x.ways(33, 0), 1);
        x.likeness(0, 40, 1, 1);
        due(13, "ways(4, 0) with one more", x.ways(4, 0), 17);
        x.holds(11, 3, 5, 6);
        due(13, "ways(4, 0)", x.ways(4, 0), 16);
        due(13, "ways(4, 30005)", x.ways(4, 30005), 17);
        due(13, "ways(4, 30007)", x.ways(4, 30007), 16);
        due(13, "ways(4, 79999)", x.ways(4, 79999), 16);
        OldReckoner chain = new OldReckoner();
        for (int i = 0; i < 24; i++) {
            chain.likeness(0, i / 3 * 11 + 1, 1, 1);
        }
        due(13, "ways(8, 0) by three at each turn", chain.ways(8, 0), 6561);
        due(13, "ways(0, 0)", x.ways(0, 0), 1);
        OldReckoner longest = new OldReckoner();
        for (int i = 0; i < 9; i++) {
            longest.likeness(0, 11 * i + 1, 1, 1);
        }
        due(13, "ways(9, 0) by nine", longest.ways(9, 0), 1);
        wayIs(longest, 9, 0, 0, 1, 2, 3, 4, 5, 6, 7, 8);
        factorIs(longest, 9, 0, 0, 1, 1);
        spanIs(longest, 9, 0, 1, 1);
        int[][] bad = {{-1, 0}, {100, 0}, {0, -1}, {0, 80000}, {LEAST, 0}, {0, MOST}};
        for (int[] b : bad) {
            refused(13, x, "ways(" + b[0] + ", " + b[1] + ")", () -> x.ways(b[0], b[1]), BAD);
        }
    }

    private static void way() {
        OldReckoner x = withLikenesses(new int[] {0, 32, 1, 1}, new int[] {0, 31, 1, 1}, new int[] {0, 20, 1, 1},
                new int[] {0, 1, 1, 1}, new int[] {0, 21, 1, 1}, new int[] {0, 3, 1, 1}, new int[] {0, 12, 1, 1});
        due(14, "ways(3, 0)", x.ways(3, 0), 7);
        wayIs(x, 3, 0, 5);
        wayIs(x, 3, 1, 102, 100);
        wayIs(x, 3, 2, 3, 101);
        wayIs(x, 3, 3, 102, 4, 101);
        wayIs(x, 3, 4, 102, 106, 101);
        wayIs(x, 3, 5, 3, 104, 100);
        wayIs(x, 3, 6, 3, 6, 100);
        due(14, "way(3, 0, 7, 0)", x.way(3, 0, 7, 0), NONE);
        due(14, "way(3, 0, most, most)", x.way(3, 0, MOST, MOST), NONE);
        wayIs(x, 33, 0);
        due(14, "way(33, 0, 1, 0)", x.way(33, 0, 1, 0), NONE);
        due(14, "way(9, 0, 0, 0)", x.way(9, 0, 0, 0), NONE);
        x.holds(5, 1, 0, 9999);
        due(14, "way(3, 0, 0, 0) where the short way is not", x.way(3, 0, 0, 0), 102);
        due(14, "way(3, 10000, 0, 0)", x.way(3, 10000, 0, 0), 5);
        OldReckoner chain = new OldReckoner();
        for (int i = 0; i < 24; i++) {
            chain.likeness(0, i / 3 * 11 + 1, 1, 1);
        }
        wayIs(chain, 8, 0, 0, 3, 6, 9, 12, 15, 18, 21);
        wayIs(chain, 8, 6560, 2, 5, 8, 11, 14, 17, 20, 23);
        wayIs(chain, 80, 1, 121, 118, 115, 112, 109, 106, 103, 101);
        int[][] bad = {{-1, 0, 0, 0}, {100, 0, 0, 0}, {3, -1, 0, 0}, {3, 80000, 0, 0}, {3, 0, -1, 0}, {3, 0, 0, -1},
            {9, 0, -1, 0}, {9, 0, 0, LEAST}};
        for (int[] b : bad) {
            refused(14, x, "way with " + Arrays.toString(b), () -> x.way(b[0], b[1], b[2], b[3]), BAD);
        }
    }

    private static void factor() {
        OldReckoner x = withLikenesses(new int[] {2, 1, 3, 2}, new int[] {1, 21, 4, 5}, new int[] {4, 23, 7, 1},
                new int[] {0, 3, 1000, 1});
        x.doubt(0, 1, 100);
        x.doubt(1, 1, 250);
        x.doubt(2, 1, 400);
        x.holds(3, 5, 0, 9999);
        factorIs(x, 1, 0, 0, 27, 20);
        factorIs(x, 1, 0, 1, 33, 20);
        factorIs(x, 10, 0, 0, 20, 33);
        factorIs(x, 10, 0, 1, 20, 27);
        factorIs(x, 12, 0, 0, 1, 1);
        factorIs(x, 2, 0, 0, 27, 20);
        factorIs(x, 3, 0, 0, 27 * 21, 20 * 10);
        factorIs(x, 3, 0, 1, 33 * 49, 10 * 5);
        factorIs(x, 30, 0, 0, 10 * 5, 33 * 49);
        factorIs(x, 30, 0, 1, 20 * 10, 27 * 21);
        factorIs(x, 3, 50000, 1, 1000, 1);
        factorIs(x, 77, 0, 0, 1, 1);
        due(15, "factor(7, 0, 0, 0)", x.factor(7, 0, 0, 0), NONE);
        OldReckoner y = withLikenesses(new int[] {0, 1, 1000, 1}, new int[] {0, 12, 1000, 1},
                new int[] {0, 23, 1000, 1}, new int[] {0, 34, 1000, 1}, new int[] {0, 45, 999, 1},
                new int[] {0, 56, 1, 1000}, new int[] {0, 46, 1000, 1}, new int[] {0, 68, 1, 1000});
        factorIs(y, 5, 0, 0, 999000000000000L, 1);
        factorIs(y, 50, 0, 1, 1, 999000000000000L);
        due(15, "factor(6, 0, 0, 0) of 10^15", y.factor(6, 0, 0, 0), LARGE);
        due(15, "factor(60, 0, 1, 1) of one by 10^15", y.factor(60, 0, 1, 1), LARGE);
        due(15, "factor(8, 0, 0, 0) that is LARGE on the way alone", y.factor(8, 0, 0, 0), LARGE);
        factorIs(y, 48, 0, 0, 1, 1);
        OldReckoner z = withLikenesses(new int[] {2, 1, 1000, 1}, new int[] {0, 12, 1000, 1},
                new int[] {0, 23, 1000, 1}, new int[] {0, 34, 1000, 1}, new int[] {0, 45, 1000, 1});
        z.doubt(0, 1, 500);
        due(15, "factor(5, 0, 0, 0), LOW 5 * 10^14, HIGH LARGE", z.factor(5, 0, 0, 0), LARGE);
        due(15, "factor(5, 0, 1, 0)", z.factor(5, 0, 1, 0), LARGE);
        due(15, "factor(5, 0, 0, 1)", z.factor(5, 0, 0, 1), LARGE);
        OldReckoner low = lowAloneIsLarge();
        for (int i = 0; i < 4; i++) {
            due(15, "factor(6, 0, .., ..), LOW alone being LARGE", low.factor(6, 0, i / 2, i % 2), LARGE);
            due(16, "span(6, 0, .., ..), LOW alone being LARGE", low.span(6, 0, i / 2, i % 2), LARGE);
        }
        factorIs(low, 5, 0, 1, 3, 2000000000000L);
        factorsThatCancel();
        int[][] bad = {{-1, 0, 0, 0}, {100, 0, 0, 0}, {7, -1, 0, 0}, {7, 80000, 0, 0}, {7, 0, 2, 0}, {7, 0, -1, 0},
            {7, 0, 0, 2}, {7, 0, 0, -1}};
        for (int[] b : bad) {
            refused(15, x, "factor with " + Arrays.toString(b),
                    () -> x.factor(b[0], b[1], b[2], b[3]), BAD);
        }
    }

    /** The LOW from 0 to 6 is 1 by 1.8 * 10^15, the HIGH 1 by 6 * 10^14. */
    private static OldReckoner lowAloneIsLarge() {
        OldReckoner x = withLikenesses(new int[] {2, 1, 1, 1}, new int[] {0, 12, 1, 1000},
                new int[] {0, 23, 1, 1000}, new int[] {0, 34, 1, 1000}, new int[] {0, 45, 1, 1000},
                new int[] {0, 56, 1, 900});
        x.doubt(0, 1, 500);
        return x;
    }

    /** Products that would be LARGE, were they not in lowest terms. */
    private static void factorsThatCancel() {
        int[] pairs = {1, 12, 23, 34, 45, 56};
        int[][] above = {{1000, 1}, {1000, 1}, {1000, 1}, {1000, 1}, {1, 7}, {700, 1}};
        int[][] below = {{1, 1000}, {1, 1000}, {1, 1000}, {1, 1000}, {7, 1}, {1, 700}};
        int[][] back = {{1, 1000}, {1, 1000}, {1, 1000}, {1, 1000}, {1, 997}, {1000, 1}};
        OldReckoner x = new OldReckoner();
        OldReckoner y = new OldReckoner();
        OldReckoner z = new OldReckoner();
        for (int i = 0; i < 6; i++) {
            x.likeness(0, pairs[i], above[i][0], above[i][1]);
            y.likeness(0, pairs[i], below[i][0], below[i][1]);
            z.likeness(0, pairs[i], back[i][0], back[i][1]);
        }
        factorIs(x, 6, 0, 0, 100000000000000L, 1);
        factorIs(y, 6, 0, 0, 1, 100000000000000L);
        factorIs(z, 6, 0, 0, 1, 997000000000L);
    }

    private static void span() {
        OldReckoner x = withLikenesses(new int[] {2, 1, 10, 1}, new int[] {0, 2, 9, 1}, new int[] {0, 21, 1, 1},
                new int[] {0, 10, 1, 12});
        x.doubt(0, 1, 50);
        spanIs(x, 1, 0, 9, 1);
        spanIs(x, 1, 1, 12, 1);
        spanIs(x, 10, 0, 1, 12);
        spanIs(x, 10, 1, 1, 9);
        spanIs(x, 55, 0, 1, 1);
        spanIs(x, 55, 1, 1, 1);
        due(16, "span(5, 0, 0, 0)", x.span(5, 0, 0, 0), NONE);
        x.doubt(0, 1, 300);
        spanIs(x, 1, 0, 7, 1);
        spanIs(x, 1, 1, 13, 1);
        spanIs(x, 10, 0, 1, 13);
        spanIs(x, 10, 1, 1, 7);
        x.doubt(0, 1, 50);
        OldReckoner within = withLikenesses(new int[] {0, 1, 10, 1}, new int[] {2, 1, 10, 1});
        within.doubt(1, 1, 200);
        spanIs(within, 1, 0, 8, 1);
        spanIs(within, 1, 1, 12, 1);
        x.likeness(0, 33, 2, 1);
        spanIs(x, 33, 1, 1, 1);
        for (int pair : new int[] {4, 45, 56, 68}) {
            x.likeness(0, pair, 1000, 1);
        }
        spanIs(x, 8, 0, 1000000000000L, 1);
        x.likeness(0, 81, 1000, 1);
        due(16, "span(1, 0, 0, 0), one of the ways being LARGE", x.span(1, 0, 0, 0), LARGE);
        due(16, "span(1, 0, 1, 1)", x.span(1, 0, 1, 1), LARGE);
        factorIs(x, 1, 0, 0, 19, 2);
        int[][] bad = {{-1, 0, 0, 0}, {100, 0, 0, 0}, {5, -1, 0, 0}, {5, 80000, 0, 0}, {5, 0, 2, 0}, {5, 0, -1, 0},
            {5, 0, 0, 2}, {1, 0, 0, -1}};
        for (int[] b : bad) {
            refused(16, x, "span with " + Arrays.toString(b), () -> x.span(b[0], b[1], b[2], b[3]), BAD);
        }
    }

    /** Ways whose ends differ by some 10^-12, of numbers whose products are beyond a long. */
    private static void spanOfNearFractions() {
        int[] above = {0, 4, 8, 16, 17};
        int[] below = {1, 2, 10, 14, 18};
        int[][] pairs = {{1, 12, 23, 34, 49}, {5, 56, 67, 78, 89}};
        int[] bases = {960, 900};
        OldReckoner x = new OldReckoner();
        BigInteger[][] product = new BigInteger[2][2];
        for (int way = 0; way < 2; way++) {
            product[way][0] = BigInteger.ONE;
            product[way][1] = BigInteger.ONE;
            for (int i = 0; i < 5; i++) {
                int p = bases[way] + above[i];
                int q = bases[way] + below[i];
                x.likeness(0, pairs[way][i], p, q);
                product[way][0] = product[way][0].multiply(BigInteger.valueOf(p));
                product[way][1] = product[way][1].multiply(BigInteger.valueOf(q));
            }
        }
        boolean firstIsLess = product[0][0].multiply(product[1][1])
                .compareTo(product[1][0].multiply(product[0][1])) < 0;
        for (int end = 0; end < 2; end++) {
            BigInteger[] want = product[firstIsLess == (end == 0) ? 0 : 1];
            BigInteger g = want[0].gcd(want[1]);
            spanIs(x, 9, end, want[0].divide(g).longValueExact(), want[1].divide(g).longValueExact());
        }
    }

    private static void quarrel() {
        OldReckoner x = withLikenesses(new int[] {0, 1, 2, 1}, new int[] {0, 12, 2, 1}, new int[] {0, 20, 1, 4});
        quarrelIs(x, 0);
        x.likeness(0, 2, 5, 1);
        quarrelIs(x, 0, 2, 3);
        x.holds(2, 1, 0, 9999);
        quarrelIs(x, 0, 100, 3, 101);
        quarrelIs(x, 10000, 2, 3);
        x.forget();
        x.likeness(0, 2, 3, 1);
        quarrelIs(x, 0, 0, 1, 103);
        x.holds(3, 0, 5, 5);
        quarrelIs(x, 4);
        quarrelIs(x, 5, 0, 1, 103);
        x.likeness(0, 99, 1, 1);
        quarrelIs(x, 4);
        x.likeness(0, 88, 1000, 999);
        quarrelIs(x, 5, 5);
        x.forget();
        x.likeness(0, 88, 999, 1000);
        quarrelIs(x, 5, 105);
        refused(17, x, "quarrel(-1, 0)", () -> x.quarrel(-1, 0), BAD);
        refused(17, x, "quarrel(80000, 0)", () -> x.quarrel(80000, 0), BAD);
        refused(17, x, "quarrel(0, -1)", () -> x.quarrel(0, -1), BAD);
        OldReckoner doubtful = withLikenesses(new int[] {2, 1, 10, 1}, new int[] {0, 1, 11, 1});
        quarrelIs(doubtful, 0, 100, 1);
        doubtful.doubt(0, 1, 100);
        quarrelIs(doubtful, 0);
        doubtful.doubt(0, 1, 99);
        quarrelIs(doubtful, 0, 100, 1);
        doubtful.drop(0, 1);
        quarrelIs(doubtful, 0);
    }

    private static void quarrelOrder() {
        OldReckoner x = withLikenesses(new int[] {0, 67, 1, 1}, new int[] {0, 1, 1, 1}, new int[] {0, 12, 1, 1},
                new int[] {0, 34, 2, 1}, new int[] {0, 34, 3, 1}, new int[] {0, 2, 2, 1}, new int[] {0, 34, 4, 1});
        quarrelIs(x, 0, 103, 4);
        x.holds(3, 0, 7, 7);
        quarrelIs(x, 0, 104, 6);
        x.holds(4, 0, 7, 7);
        quarrelIs(x, 0, 101, 5, 102);
        OldReckoner two = withLikenesses(new int[] {0, 1, 1, 1}, new int[] {0, 3, 1, 1}, new int[] {0, 31, 2, 1},
                new int[] {0, 12, 1, 1}, new int[] {0, 20, 2, 1});
        quarrelIs(two, 0, 100, 1, 2);
        OldReckoner other = withLikenesses(new int[] {0, 1, 1, 1}, new int[] {0, 12, 1, 1}, new int[] {0, 20, 2, 1},
                new int[] {0, 3, 1, 1}, new int[] {0, 31, 2, 1});
        quarrelIs(other, 0, 0, 1, 2);
        OldReckoner last = withLikenesses(new int[] {0, 1, 1, 1}, new int[] {0, 12, 1, 1}, new int[] {0, 20, 1, 1},
                new int[] {0, 20, 2, 1});
        quarrelIs(last, 0, 102, 3);
        last.holds(2, 0, 1, 1);
        last.likeness(0, 2, 1, 1);
        last.holds(4, 0, 1, 1);
        quarrelIs(last, 0, 0, 1, 3);
        OldReckoner whole = new OldReckoner();
        for (int i = 0; i < 10; i++) {
            whole.likeness(0, i == 9 ? 90 : 11 * i + 1, 1, 1);
        }
        quarrelIs(whole, 0);
        whole.doubt(4, 1, 1);
        quarrelIs(whole, 0);
        whole.forget();
        whole.likeness(1, 90, 1, 1);
        whole.doubt(9, 1, 1);
        quarrelIs(whole, 0, 0, 1, 2, 3, 4, 5, 6, 7, 8, 9);
        whole.forget();
        whole.likeness(1, 9, 1, 1);
        whole.doubt(9, 1, 1);
        quarrelIs(whole, 0, 100, 9, 108, 107, 106, 105, 104, 103, 102, 101);
    }

    private static void quarrelLarge() {
        int[] pairs = {1, 12, 23, 34, 45};
        OldReckoner x = new OldReckoner();
        for (int pair : pairs) {
            x.likeness(0, pair, 1000, 1);
        }
        x.likeness(0, 99, 2, 1);
        quarrelIs(x, 0, 5);
        for (int n = 6; n < 11; n++) {
            x.likeness(0, n < 10 ? 11 * n - 10 : 50, 1, 1);
        }
        due(17, "quarrel(0, 0), a ring being LARGE on the way", x.quarrel(0, 0), LARGE);
        due(18, "cure(0)", x.cure(0), LARGE);
        due(19, "heal(0)", x.heal(0), LARGE);
        OldReckoner mild = withLikenesses(new int[] {0, 1, 1000, 1}, new int[] {0, 12, 1, 1000},
                new int[] {0, 23, 1000, 1}, new int[] {0, 34, 1, 1000}, new int[] {0, 45, 1000, 1},
                new int[] {0, 56, 1, 1000}, new int[] {0, 67, 1000, 1}, new int[] {0, 78, 1, 1000},
                new int[] {0, 89, 1000, 1}, new int[] {0, 90, 1, 1000});
        quarrelIs(mild, 0);
        OldReckoner oneWay = withLikenesses(new int[] {2, 1, 1000, 1}, new int[] {0, 12, 1000, 1},
                new int[] {0, 23, 1000, 1}, new int[] {0, 34, 1000, 1}, new int[] {0, 45, 667, 1},
                new int[] {0, 56, 1, 1000}, new int[] {0, 60, 1, 1000});
        quarrelIs(oneWay, 0, 0, 1, 2, 3, 4, 5, 6);
        oneWay.doubt(0, 1, 500);
        due(17, "quarrel(0, 0), a ring's HIGH alone being LARGE", oneWay.quarrel(0, 0), LARGE);
        OldReckoner low = lowAloneIsLarge();
        quarrelIs(low, 0);
        low.likeness(0, 60, 1, 1);
        due(17, "quarrel(0, 0), a ring's LOW alone being LARGE", low.quarrel(0, 0), LARGE);
        low.forget();
        for (int pair : new int[] {67, 78, 89, 90}) {
            low.likeness(0, pair, 1000, 1);
        }
        due(17, "quarrel(0, 0), LOW being LARGE on the way, in one direction alone", low.quarrel(0, 0), LARGE);
    }

    private static void cure() {
        OldReckoner x = withLikenesses(new int[] {0, 1, 2, 1}, new int[] {2, 1, 3, 1}, new int[] {4, 1, 9, 1},
                new int[] {0, 23, 1, 1});
        due(18, "cure(0)", x.cure(0), 6);
        due(18, "count(1) after a cure that was only asked for", x.count(1), 0);
        x.drop(1, 1);
        due(18, "cure(0) with one dropped", x.cure(0), 4);
        x.drop(1, 0);
        x.doubt(2, 1, 500);
        due(18, "cure(0) with a wide hearsay", x.cure(0), 6);
        x.doubt(2, 1, 0);
        x.holds(0, 3, 0, 9999);
        due(18, "cure(0) where no sure one counts: the least bits", x.cure(0), 2);
        x.doubt(1, 2, 0);
        due(18, "cure(0): the least worth", x.cure(0), 4);
        due(18, "cure(30000)", x.cure(30000), 6);
        x.likeness(0, 1, 27, 10);
        due(18, "cure(30000): sure ones at odds", x.cure(30000), NONE);
        due(18, "heal(30000)", x.heal(30000), NONE);
        due(18, "count(1)", x.count(1), 0);
        due(18, "cure(0)", x.cure(0), 6);
        refused(18, x, "cure(-1)", () -> x.cure(-1), BAD);
        refused(18, x, "cure(80000)", () -> x.cure(80000), BAD);
        OldReckoner few = withLikenesses(new int[] {2, 1, 2, 1}, new int[] {2, 1, 2, 1}, new int[] {2, 1, 3, 1});
        few.doubt(0, 3, 0);
        few.doubt(1, 2, 0);
        few.doubt(2, 5, 0);
        due(18, "cure(0): of equal worth the fewest", few.cure(0), 4);
        few.doubt(2, 6, 0);
        due(18, "cure(0): the least worth, though more", few.cure(0), 3);
        few.doubt(0, 0, 0);
        few.doubt(1, 0, 0);
        few.doubt(2, 0, 0);
        due(18, "cure(0): worth nothing, the fewest", few.cure(0), 4);
        OldReckoner self = withLikenesses(new int[] {2, 55, 2, 1});
        due(18, "cure(0) of one of a measure and itself", self.cure(0), 1);
    }

    private static void cureChoices() {
        OldReckoner x = new OldReckoner();
        for (int i = 0; i < 10; i++) {
            x.likeness(i % 2 == 0 ? 2 : 4, 1, 1, 1);
        }
        due(18, "cure(0) with ten to choose from", x.cure(0), 0);
        x.likeness(2, 1, 1, 1);
        refused(18, x, "cure(0) with eleven to choose from", () -> x.cure(0), LARGE);
        refused(19, x, "heal(0) with eleven to choose from", () -> x.heal(0), LARGE);
        x.drop(3, 1);
        due(18, "cure(0) with one of eleven dropped", x.cure(0), 0);
        x.drop(3, 0);
        x.holds(10, 1, 0, 9999);
        due(18, "cure(0) with one of eleven elsewhere", x.cure(0), 0);
        due(18, "cure(10000)", x.cure(10000), LARGE);
        OldReckoner pairs = new OldReckoner();
        for (int i = 0; i < 10; i++) {
            pairs.likeness(2, i / 2 * 22 + 1, 1 + i % 2, 1);
        }
        due(18, "cure(0) of five pairs", pairs.cure(0), 1 + 4 + 16 + 64 + 256);
        pairs.likeness(0, 1, 1, 1);
        due(18, "cure(0) with a sure one", pairs.cure(0), 2 + 4 + 16 + 64 + 256);
        pairs.doubt(2, 100, 0);
        pairs.doubt(3, 99, 0);
        due(18, "cure(0) with worths", pairs.cure(0), 2 + 8 + 16 + 64 + 256);
        OldReckoner late = new OldReckoner();
        for (int i = 0; i < 22; i++) {
            late.likeness(0, 1, 1, 1);
        }
        late.likeness(2, 1, 2, 1);
        late.likeness(4, 12, 2, 1);
        due(18, "cure(0) by a great number", late.cure(0), 1 << 22);
    }

    private static void heal() {
        OldReckoner x = withLikenesses(new int[] {0, 1, 2, 1}, new int[] {2, 1, 3, 1}, new int[] {4, 1, 9, 1},
                new int[] {2, 23, 1, 1}, new int[] {2, 45, 1, 1});
        x.drop(4, 1);
        due(19, "heal(0)", x.heal(0), 2);
        due(19, "told(1, 10)", x.told(1, 10), 1);
        due(19, "told(2, 10)", x.told(2, 10), 1);
        due(19, "told(3, 10)", x.told(3, 10), 0);
        due(19, "told(4, 10)", x.told(4, 10), 1);
        due(19, "heal(0) again", x.heal(0), 0);
        due(19, "count(1)", x.count(1), 3);
        due(19, "cure(0)", x.cure(0), 0);
        refused(19, x, "heal(-1)", () -> x.heal(-1), BAD);
        refused(19, x, "heal(80000)", () -> x.heal(80000), BAD);
        x.likeness(0, 1, 7, 1);
        refused(19, x, "heal(0) with none that helps", () -> x.heal(0), NONE);
        OldReckoner full = withLikenesses(new int[] {4, 1, 9, 1});
        for (int i = 1; i < 24; i++) {
            full.likeness(i == 23 ? 2 : 0, 1, i == 23 ? 2 : 1, 1);
        }
        due(19, "heal(0) of twenty-four", full.heal(0), 2);
        due(19, "told(0, 10)", full.told(0, 10), 1);
        due(19, "told(23, 10)", full.told(23, 10), 1);
        due(30, "count(1)", full.count(1), 2);
    }

    private static void custom() {
        OldReckoner x = new OldReckoner();
        due(20, "custom(3, 5)", x.custom(3, 5), 5);
        due(20, "custom(0, 0)", x.custom(0, 0), 0);
        due(20, "count(2)", x.count(2), 2);
        for (int i = 0; i < 5; i++) {
            due(20, "step(3, " + i + ", 9)", x.step(3, i, 9), 2);
        }
        due(20, "custom(3, 3) anew", x.custom(3, 3), 3);
        due(20, "step(3, 2, 9)", x.step(3, 2, 9), 2);
        due(20, "step(3, 3, 9)", x.step(3, 3, 9), INDEX);
        due(20, "custom(3, 5) anew", x.custom(3, 5), 5);
        due(20, "step(3, 4, 9)", x.step(3, 4, 9), 2);
        due(20, "count(2)", x.count(2), 2);
        refused(20, x, "custom(4, 1)", () -> x.custom(4, 1), BAD);
        refused(20, x, "custom(-1, 1)", () -> x.custom(-1, 1), BAD);
        refused(20, x, "custom(1, 6)", () -> x.custom(1, 6), BAD);
        refused(20, x, "custom(3, -1)", () -> x.custom(3, -1), SIZE);
        refused(20, x, "custom(1, least)", () -> x.custom(1, LEAST), SIZE);
        refused(20, x, "custom(4, -1): BAD is ahead of SIZE", () -> x.custom(4, -1), BAD);
    }

    private static void step() {
        OldReckoner x = new OldReckoner();
        x.custom(1, 2);
        due(21, "step(1, 0, 1000)", x.step(1, 0, 1000), 2);
        due(21, "step(1, 0, 2)", x.step(1, 0, 2), 1000);
        due(21, "step(1, 1, 7)", x.step(1, 1, 7), 2);
        due(21, "step(1, 0, 3)", x.step(1, 0, 3), 2);
        refused(21, x, "step(4, 0, 2)", () -> x.step(4, 0, 2), BAD);
        refused(21, x, "step(-1, 0, 2)", () -> x.step(-1, 0, 2), BAD);
        refused(21, x, "step(0, 0, 2)", () -> x.step(0, 0, 2), NOTHING);
        refused(21, x, "step(0, -1, 1): NOTHING is first", () -> x.step(0, -1, 1), NOTHING);
        refused(21, x, "step(1, 2, 2)", () -> x.step(1, 2, 2), INDEX);
        refused(21, x, "step(1, -1, 2)", () -> x.step(1, -1, 2), INDEX);
        refused(21, x, "step(1, 2, 1): INDEX is ahead of the step's BAD", () -> x.step(1, 2, 1), INDEX);
        refused(21, x, "step(1, 1, 1)", () -> x.step(1, 1, 1), BAD);
        refused(21, x, "step(1, 1, 1001)", () -> x.step(1, 1, 1001), BAD);
    }

    private static void copy() {
        OldReckoner x = new OldReckoner();
        x.custom(0, 3);
        x.custom(1, 4);
        for (int i = 0; i < 3; i++) {
            x.step(0, i, 10 + i);
        }
        due(22, "copy(0, 1, 2)", x.copy(0, 1, 2), 2);
        due(22, "step(1, 0, 20)", x.step(1, 0, 20), 10);
        due(22, "step(1, 1, 21)", x.step(1, 1, 21), 11);
        due(22, "step(1, 2, 22)", x.step(1, 2, 22), 2);
        due(22, "step(1, 3, 23)", x.step(1, 3, 23), 2);
        due(22, "copy(1, 0, 3)", x.copy(1, 0, 3), 3);
        due(22, "step(0, 2, 5)", x.step(0, 2, 5), 22);
        due(22, "step(1, 2, 22): a copy stands by itself", x.step(1, 2, 22), 22);
        due(22, "copy(1, 0, 0)", x.copy(1, 0, 0), 0);
        due(22, "copy(1, 1, 4)", x.copy(1, 1, 4), 4);
        due(22, "step(1, 3, 23)", x.step(1, 3, 23), 23);
        refused(22, x, "copy(0, 1, 4)", () -> x.copy(0, 1, 4), INDEX);
        refused(22, x, "copy(1, 0, 4)", () -> x.copy(1, 0, 4), INDEX);
        refused(22, x, "copy(0, 1, -1)", () -> x.copy(0, 1, -1), INDEX);
        refused(22, x, "copy(0, 1, most)", () -> x.copy(0, 1, MOST), INDEX);
        refused(22, x, "copy(2, 1, 0)", () -> x.copy(2, 1, 0), NOTHING);
        refused(22, x, "copy(0, 2, 9): NOTHING is ahead of INDEX", () -> x.copy(0, 2, 9), NOTHING);
        refused(22, x, "copy(2, 2, 0)", () -> x.copy(2, 2, 0), NOTHING);
        refused(22, x, "copy(4, 2, 0)", () -> x.copy(4, 2, 0), BAD);
        refused(22, x, "copy(2, -1, 0)", () -> x.copy(2, -1, 0), BAD);
        refused(22, x, "copy(0, 4, -1)", () -> x.copy(0, 4, -1), BAD);
        refused(22, x, "copy(-1, 0, 0)", () -> x.copy(-1, 0, 0), BAD);
    }

    private static void part() {
        OldReckoner x = new OldReckoner();
        x.custom(0, 3);
        x.step(0, 0, 5);
        x.step(0, 1, 20);
        x.step(0, 2, 12);
        long v = ((7L * 5 + 3) * 20 + 19) * 12 + 11;
        long[] want = {7, 3, 19, 11};
        for (int i = 0; i < 4; i++) {
            due(23, "part(0, " + v + ", " + i + ")", x.part(0, v, i), want[i]);
            due(23, "part(0, -" + v + ", " + i + ")", x.part(0, -v, i), -want[i]);
            due(23, "part(0, 0, " + i + ")", x.part(0, 0, i), 0);
        }
        due(23, "part(0, 10^15, 0)", x.part(0, 1000000000000000L, 0), 833333333333L);
        due(23, "part(0, -10^15, 0)", x.part(0, -1000000000000000L, 0), -833333333333L);
        due(23, "part(0, -10^15, 3)", x.part(0, -1000000000000000L, 3), -4);
        x.custom(1, 0);
        due(23, "part(1, -10^15, 0)", x.part(1, -1000000000000000L, 0), -1000000000000000L);
        x.custom(2, 5);
        due(23, "part(2, 63, 0)", x.part(2, 63, 0), 1);
        due(23, "part(2, 64, 0)", x.part(2, 64, 0), 2);
        due(23, "part(2, 64, 5)", x.part(2, 64, 5), 0);
        long[] beyond = {1000000000000001L, -1000000000000001L, Long.MIN_VALUE, Long.MAX_VALUE};
        for (long b : beyond) {
            refused(23, x, "part(0, " + b + ", 0)", () -> x.part(0, b, 0), BAD);
            refused(23, x, "part(3, " + b + ", 0): BAD is ahead of NOTHING", () -> x.part(3, b, 0), BAD);
        }
        refused(23, x, "part(4, 0, 0)", () -> x.part(4, 0, 0), BAD);
        refused(23, x, "part(-1, 0, 0)", () -> x.part(-1, 0, 0), BAD);
        refused(23, x, "part(3, 0, -1)", () -> x.part(3, 0, -1), NOTHING);
        refused(23, x, "part(0, 0, 4)", () -> x.part(0, 0, 4), INDEX);
        refused(23, x, "part(0, 0, -1)", () -> x.part(0, 0, -1), INDEX);
        refused(23, x, "part(2, 0, 6)", () -> x.part(2, 0, 6), INDEX);
        refused(23, x, "part(1, 0, 1)", () -> x.part(1, 0, 1), INDEX);
    }

    private static void whole() {
        OldReckoner x = new OldReckoner();
        x.custom(0, 2);
        x.step(0, 0, 20);
        x.step(0, 1, 12);
        due(24, "whole(0, 1001001)", x.whole(0, 1001001L), 253);
        due(24, "whole(0, 999)", x.whole(0, 999L), 999);
        due(24, "whole(0, 999000)", x.whole(0, 999000L), 999 * 12);
        due(24, "whole(0, 7001001001)", x.whole(0, 7001001001L), 253);
        due(24, "whole(0, 0)", x.whole(0, 0), 0);
        x.custom(1, 0);
        due(24, "whole(1, 10^18 - 1)", x.whole(1, 999999999999999999L), 999);
        x.custom(2, 5);
        for (int i = 0; i < 5; i++) {
            x.step(2, i, 1000);
        }
        due(24, "whole(2, 10^18 - 1)", x.whole(2, 999999999999999999L), 999999999999999999L);
        due(24, "whole(2, 123456789012345678)", x.whole(2, 123456789012345678L), 123456789012345678L);
        refused(24, x, "whole(4, 0)", () -> x.whole(4, 0), BAD);
        refused(24, x, "whole(-1, 0)", () -> x.whole(-1, 0), BAD);
        refused(24, x, "whole(0, -1)", () -> x.whole(0, -1), BAD);
        refused(24, x, "whole(0, 10^18)", () -> x.whole(0, 1000000000000000000L), BAD);
        refused(24, x, "whole(3, -1): BAD is ahead of NOTHING", () -> x.whole(3, -1), BAD);
        refused(24, x, "whole(3, 1)", () -> x.whole(3, 1), NOTHING);
        refused(24, x, "whole(0, least)", () -> x.whole(0, Long.MIN_VALUE), BAD);
    }

    private static void line() {
        OldReckoner x = new OldReckoner();
        int[][] bad = {{1000001, 0, 0, 0}, {-1000001, 0, 0, 0}, {0, 10, 0, 0}, {0, -1, 0, 0}, {0, 0, 8, 0},
            {0, 0, -1, 0}, {0, 0, 0, 10000}, {0, 0, 0, -1}, {LEAST, 0, 0, 0}, {MOST, 0, 0, 0}};
        for (int[] b : bad) {
            refused(25, x, "line with " + Arrays.toString(b),
                    () -> x.line(b[0], b[1], b[2], b[3]), BAD);
        }
        for (int i = 0; i < 20; i++) {
            due(25, "line " + i, x.line(i % 2 == 0 ? 1000000 : -1000000, 9, 7, 9999), i);
        }
        refused(25, x, "line 20", () -> x.line(0, 0, 0, 0), FULL);
        refused(26, x, "amend(20, 0) of twenty", () -> x.amend(20, 0), BAD);
        refused(25, x, "line, bad and full", () -> x.line(0, 10, 0, 0), BAD);
        due(25, "amend(18, 0)", x.amend(18, 0), 1000000);
        due(25, "amend(19, 0)", x.amend(19, 0), -1000000);
        x.clear();
        due(25, "line after clear", x.line(5, 0, 0, 0), 0);
    }

    private static void amend() {
        OldReckoner x = new OldReckoner();
        x.line(5, 0, 0, 0);
        x.line(6, 0, 0, 0);
        due(26, "amend(1, 1000000)", x.amend(1, 1000000), 6);
        due(26, "amend(1, -1000000)", x.amend(1, -1000000), 1000000);
        due(26, "amend(1, 0)", x.amend(1, 0), -1000000);
        due(26, "amend(1, 7)", x.amend(1, 7), 0);
        totalIs(x, 0, 0, 12, 1);
        int[][] bad = {{2, 0}, {-1, 0}, {0, 1000001}, {0, -1000001}, {MOST, 0}, {0, LEAST}};
        for (int[] b : bad) {
            refused(26, x, "amend(" + b[0] + ", " + b[1] + ")", () -> x.amend(b[0], b[1]), BAD);
        }
        x.clear();
        refused(26, x, "amend(0, 0) after clear", () -> x.amend(0, 0), BAD);
    }

    private static void clear() {
        OldReckoner x = new OldReckoner();
        due(27, "clear() of none", x.clear(), 0);
        x.line(1, 9, 0, 0);
        x.line(2, 0, 0, 0);
        x.likeness(0, 1, 1, 1);
        x.custom(0, 1);
        due(27, "clear()", x.clear(), 2);
        due(27, "count(3)", x.count(3), 0);
        due(27, "count(0)", x.count(0), 1);
        due(27, "count(2)", x.count(2), 1);
        totalIs(x, 0, 0, 0, 1);
        due(27, "clear() again", x.clear(), 0);
    }

    private static void total() {
        OldReckoner x = withLikenesses(new int[] {2, 1, 3, 2}, new int[] {0, 1, 5, 1}, new int[] {0, 2, 1, 7},
                new int[] {3, 45, 1, 1});
        x.doubt(0, 1, 200);
        x.holds(0, 0, 0, 9);
        x.holds(1, 2, 10, 9999);
        x.lies(5, 2);
        totalIs(x, 1, 0, 0, 1);
        x.line(10, 0, 0, 0);
        totalIs(x, 1, 0, 12, 1);
        totalIs(x, 1, 1, 18, 1);
        x.line(-7, 0, 0, 5);
        totalIs(x, 1, 0, -3, 5);
        totalIs(x, 1, 1, 48, 5);
        totalIs(x, 0, 1, 3, 1);
        x.line(4, 0, 5, 10);
        totalIs(x, 1, 0, 97, 5);
        x.line(3, 1, 7, 9999);
        totalIs(x, 1, 0, 112, 5);
        totalIs(x, 1, 1, 163, 5);
        due(28, "total(0, 0, 0), 1 being like nothing there", x.total(0, 0, 0), NONE);
        x.amend(3, 0);
        due(28, "total(0, 0, 0) of amount 0 with no way", x.total(0, 0, 0), NONE);
        due(28, "total(0, 1, 1)", x.total(0, 1, 1), NONE);
        x.clear();
        x.line(1, 4, 3, 0);
        due(28, "total(5, 0, 0) of a local one elsewhere", x.total(5, 0, 0), NONE);
        x.holds(3, 3, 0, 0);
        totalIs(x, 5, 0, 1, 1);
        x.clear();
        x.line(1, 0, 0, 0);
        x.line(-1, 2, 0, 0);
        totalIs(x, 2, 0, -6, 7);
        x.line(6, 0, 0, 77);
        totalIs(x, 2, 1, 0, 1);
        int[][] bad = {{10, 0, 0}, {-1, 0, 0}, {9, 2, 0}, {9, -1, 0}, {9, 0, 2}, {9, 0, -1}};
        for (int[] b : bad) {
            refused(28, x, "total with " + Arrays.toString(b), () -> x.total(b[0], b[1], b[2]), BAD);
        }
    }

    private static void totalLarge() {
        OldReckoner x = withLikenesses(new int[] {0, 1, 1000, 1}, new int[] {0, 12, 1000, 1},
                new int[] {0, 23, 1000, 1}, new int[] {0, 34, 1000, 1}, new int[] {0, 45, 1000, 1});
        x.line(999999, 1, 0, 0);
        totalIs(x, 4, 0, 999999000000000L, 1);
        x.line(1, 1, 0, 0);
        due(28, "total(4, 0, 0) of 10^15", x.total(4, 0, 0), LARGE);
        x.amend(0, -999999);
        x.amend(1, -1);
        due(28, "total(4, 0, 0) of -10^15", x.total(4, 0, 0), LARGE);
        x.line(1, 1, 0, 0);
        due(28, "total(4, 0, 0) that is LARGE on the way alone", x.total(4, 0, 0), LARGE);
        x.amend(1, 1);
        totalIs(x, 4, 1, -999997000000000L, 1);
        x.clear();
        x.line(0, 0, 0, 0);
        due(28, "total(5, 0, 0) of amount 0, its way being LARGE", x.total(5, 0, 0), LARGE);
        x.line(0, 9, 0, 0);
        due(28, "total(5, 0, 0): NONE is ahead of LARGE", x.total(5, 0, 0), NONE);
        OldReckoner wide = withLikenesses(new int[] {2, 1, 1000, 1}, new int[] {0, 12, 1000, 1},
                new int[] {0, 23, 1000, 1}, new int[] {0, 34, 1, 1}, new int[] {0, 45, 1000, 1});
        wide.doubt(0, 1, 500);
        wide.line(900000, 0, 0, 0);
        totalIs(wide, 2, 0, 450000000000L, 1);
        due(28, "total(3, 0, 0), HIGH alone being LARGE", wide.total(3, 0, 0), LARGE);
        due(28, "total(3, 1, 0)", wide.total(3, 1, 0), LARGE);
        sumsOfFarDenominators();
    }

    /** Lines of 1 / (997 * 991 * b1 * b2 * b3) and some / (997 * 991 * 983 * 977); 997 * 991 cancels in the sum. */
    private static OldReckoner farDenominators(int b1, int b2, int b3) {
        OldReckoner x = withLikenesses(new int[] {0, 10, 1, 997}, new int[] {0, 21, 1, 991},
                new int[] {0, 32, 1, b1}, new int[] {0, 43, 1, b2}, new int[] {0, 54, 1, b3},
                new int[] {0, 62, 1, 983}, new int[] {0, 76, 1, 977});
        x.line(1, 5, 0, 0);
        x.line((int) cancelling(983L * 977, (long) b1 * b2 * b3), 7, 0, 0);
        return x;
    }

    /** The least amount that, times one number, and another number make a sum that 997 * 991 divides. */
    private static long cancelling(long other, long times) {
        BigInteger shared = BigInteger.valueOf(997L * 991);
        return BigInteger.valueOf(-other).multiply(BigInteger.valueOf(times).modInverse(shared))
                .mod(shared).longValueExact();
    }

    /** Sums that are small in lowest terms, but whose products on the way reach 10^18, or don't. */
    private static void sumsOfFarDenominators() {
        long shared = 997L * 991;
        long d = 983L * 977;
        OldReckoner near = farDenominators(790, 667, 2);
        long b = 790L * 667 * 2;
        totalIs(near, 0, 0, (d + cancelling(d, b) * b) / shared, b * d);
        OldReckoner beyond = farDenominators(984, 357, 3);
        due(28, "total(0, 0, 0): b * (d / g) is 10^18 and more", beyond.total(0, 0, 0), LARGE);
        due(28, "total(0, 1, 1)", beyond.total(0, 1, 1), LARGE);
        farNumerator(1041, false);
        farNumerator(1042, false);
        farNumerator(1041, true);
        farNumerator(1042, true);
        OldReckoner x = withLikenesses(new int[] {0, 10, 1000, 1}, new int[] {0, 21, 1000, 1},
                new int[] {0, 32, 1000, 1});
        x.line(999999, 3, 0, 0);
        x.line(999999, 1, 0, 0);
        x.line(999, 0, 0, 0);
        totalIs(x, 0, 0, 999999999999999L, 1);
        x.amend(2, 1000);
        due(28, "total(0, 0, 0) of 10^15", x.total(0, 0, 0), LARGE);
    }

    /** A sum of small ones, with an above of so many times 10^9 that 983 * 977 brings to 10^18, or not quite. */
    private static void farNumerator(int amount, boolean ahead) {
        long shared = 997L * 991;
        long more = 983L * 977;
        OldReckoner x = withLikenesses(new int[] {0, 10, 1000, 997}, new int[] {0, 21, 1000, 991},
                new int[] {0, 32, 1000, 1}, new int[] {0, 40, 1, 997}, new int[] {0, 54, 1, 991},
                new int[] {0, 65, 1, 983}, new int[] {0, 76, 1, 977});
        long above = amount * 1000000000L;
        long small = BigInteger.valueOf(-above).multiply(BigInteger.valueOf(more))
                .mod(BigInteger.valueOf(shared)).longValueExact();
        if (ahead) {
            x.line(amount, 3, 0, 0);
        }
        x.line((int) small, 7, 0, 0);
        if (!ahead) {
            x.line(amount, 3, 0, 0);
        }
        if (amount == 1041) {
            long sum = (above * more + small) / shared;
            long g = BigInteger.valueOf(sum).gcd(BigInteger.valueOf(more)).longValueExact();
            totalIs(x, 0, 0, sum / g, more / g);
        } else {
            due(28, "total(0, 0, 0): a * (d / g) or c * (b / g) is 10^18 and more", x.total(0, 0, 0), LARGE);
        }
    }

    private static void slip() {
        OldReckoner x = withLikenesses(new int[] {2, 1, 10, 1});
        x.doubt(0, 1, 100);
        due(29, "slip(0, 0) with no lines", x.slip(0, 0), 0);
        due(29, "slip(0, 1) with no lines", x.slip(0, 1), NONE);
        x.line(10, 0, 0, 0);
        due(29, "slip(1, 90)", x.slip(1, 90), 0);
        due(29, "slip(1, 110)", x.slip(1, 110), 0);
        due(29, "slip(1, 89)", x.slip(1, 89), NONE);
        due(29, "slip(1, 111): 12 for 10", x.slip(1, 111), 3);
        due(29, "slip(1, 180): twice", x.slip(1, 180), 1);
        due(29, "slip(1, 221)", x.slip(1, 221), NONE);
        due(29, "slip(1, 0): out", x.slip(1, 0), 2);
        x.amend(0, -10);
        due(29, "slip(1, -110)", x.slip(1, -110), 0);
        due(29, "slip(1, -90)", x.slip(1, -90), 0);
        due(29, "slip(1, -111)", x.slip(1, -111), 3);
        due(29, "slip(1, -89)", x.slip(1, -89), NONE);
        x.amend(0, 1);
        x.doubt(0, 1, 30);
        due(29, "slip(1, 10): from 9.7 to 10.3", x.slip(1, 10), 0);
        due(29, "slip(1, 9)", x.slip(1, 9), NONE);
        due(29, "slip(1, 11)", x.slip(1, 11), NONE);
        x.amend(0, -1);
        due(29, "slip(1, -10): from -10.3 to -9.7", x.slip(1, -10), 0);
        due(29, "slip(1, -9)", x.slip(1, -9), NONE);
        due(29, "slip(1, -11)", x.slip(1, -11), NONE);
        due(29, "slip(1, 10^9)", x.slip(1, 1000000000), NONE);
        due(29, "slip(1, -10^9)", x.slip(1, -1000000000), NONE);
        x.line(0, 7, 0, 0);
        due(29, "slip(1, -10), a line having no way", x.slip(1, -10), NONE);
        refused(29, x, "slip(10, 0)", () -> x.slip(10, 0), BAD);
        refused(29, x, "slip(-1, 0)", () -> x.slip(-1, 0), BAD);
        refused(29, x, "slip(1, 10^9 + 1)", () -> x.slip(1, 1000000001), BAD);
        refused(29, x, "slip(1, -10^9 - 1)", () -> x.slip(1, -1000000001), BAD);
        refused(29, x, "slip(7, least)", () -> x.slip(7, LEAST), BAD);
    }

    private static void slipForms() {
        OldReckoner x = new OldReckoner();
        x.line(60, 0, 0, 0);
        x.line(12, 0, 0, 0);
        x.line(-12, 0, 0, 0);
        x.line(50, 0, 0, 0);
        x.line(25, 0, 0, 0);
        due(29, "slip(0, 135)", x.slip(0, 135), 0);
        due(29, "slip(0, 195): line 0 twice", x.slip(0, 195), 1);
        due(29, "slip(0, 75): line 0 out", x.slip(0, 75), 2);
        due(29, "slip(0, 147): line 1 twice, ahead of line 2 out, and of line 0's 12 for 10", x.slip(0, 147), 11);
        due(29, "slip(0, 123): line 1 out, ahead of line 2 twice", x.slip(0, 123), 12);
        due(29, "slip(0, 145): line 3, 12 for 10", x.slip(0, 145), 33);
        due(29, "slip(0, 125): line 0, 10 for 12", x.slip(0, 125), 4);
        due(29, "slip(0, 133): line 1, 10 for 12", x.slip(0, 133), 14);
        due(29, "slip(0, 137): line 2, 10 for 12", x.slip(0, 137), 24);
        due(29, "slip(0, 140): none of 25, which 10 does not divide", x.slip(0, 140), NONE);
        due(29, "slip(0, 160): line 4 twice", x.slip(0, 160), 41);
        due(29, "slip(0, 110): line 4 out", x.slip(0, 110), 42);
        OldReckoner many = new OldReckoner();
        for (int i = 0; i < 20; i++) {
            many.line(1 << i, 0, 0, 0);
        }
        due(29, "slip(0, ..): line 19 twice", many.slip(0, (1 << 20) - 1 + (1 << 19)), 191);
        due(29, "slip(0, ..): line 19 out", many.slip(0, (1 << 19) - 1), 192);
        due(29, "slip(0, 10^9) of twenty lines", many.slip(0, 1000000000), NONE);
        OldReckoner both = new OldReckoner();
        both.line(-60, 0, 0, 0);
        both.line(-120, 0, 0, 0);
        due(29, "slip(0, -192): 12 for 10 of an amount below 0", both.slip(0, -192), 3);
        due(29, "slip(0, -170)", both.slip(0, -170), 4);
        due(29, "slip(0, -204)", both.slip(0, -204), 13);
        due(29, "slip(0, -160)", both.slip(0, -160), 14);
    }

    private static void slipLarge() {
        OldReckoner x = withLikenesses(new int[] {0, 1, 1000, 1}, new int[] {0, 12, 1000, 1},
                new int[] {0, 23, 1000, 1}, new int[] {0, 34, 1000, 1});
        x.line(7, 4, 0, 0);
        x.line(600000, 1, 0, 0);
        due(29, "slip(4, 7): twice line 1 is LARGE, and tried ahead of its out", x.slip(4, 7), LARGE);
        due(29, "slip(4, 0): one that is tried is LARGE", x.slip(4, 0), LARGE);
        x.clear();
        x.line(600000, 1, 0, 0);
        x.line(-600000, 1, 0, 0);
        due(29, "slip(4, 0)", x.slip(4, 0), 0);
        x.amend(0, 1000000);
        due(29, "slip(4, 0), TOTAL being LARGE", x.slip(4, 0), LARGE);
        x.clear();
        x.line(0, 0, 0, 0);
        x.likeness(0, 45, 1000, 1);
        due(29, "slip(5, 0) of amount 0, its way being LARGE", x.slip(5, 0), LARGE);
        x.line(0, 9, 0, 0);
        due(29, "slip(5, 0): NONE is ahead of LARGE", x.slip(5, 0), NONE);
        x.clear();
        x.line(7, 4, 0, 0);
        x.line(400000, 1, 0, 0);
        due(29, "slip(4, 7): line 1 out, twice it being not LARGE", x.slip(4, 7), 12);
        x.amend(0, 500);
        x.amend(1, 600000);
        due(29, "slip(4, 1): the first that is tried, then one that is LARGE", x.slip(4, 1), LARGE);
        slipHighAloneLarge();
        slipTotalLarge();
    }

    /** LOW is 1.25 * 10^14, of twice the line 2.5 * 10^14, HIGH beyond 10^15; taken out, it would be RIGHT. */
    private static void slipHighAloneLarge() {
        OldReckoner x = withLikenesses(new int[] {4, 1, 1000, 1}, new int[] {0, 12, 1000, 1},
                new int[] {0, 23, 1000, 1});
        x.doubt(0, 1, 500);
        x.line(500000, 0, 0, 0);
        x.line(7, 3, 0, 0);
        due(29, "slip(3, 7), HIGH alone being LARGE", x.slip(3, 7), LARGE);
    }

    /** TOTAL has a LARGE number below the line, but not with twice the first amount, which would be RIGHT. */
    private static void slipTotalLarge() {
        OldReckoner x = withLikenesses(new int[] {0, 10, 1, 2}, new int[] {0, 21, 1, 997}, new int[] {0, 32, 1, 991},
                new int[] {0, 43, 1, 983}, new int[] {0, 54, 1, 977}, new int[] {0, 60, 1, 971},
                new int[] {2, 70, 2, 1});
        x.doubt(6, 1, 500);
        x.line(1, 5, 0, 0);
        x.line(1, 7, 0, 0);
        x.line(-2, 0, 0, 0);
        x.line(1, 6, 0, 0);
        due(29, "slip(0, 0), TOTAL being LARGE", x.slip(0, 0), LARGE);
        x.amend(0, 2);
        due(29, "slip(0, 0) with twice the first amount", x.slip(0, 0), 0);
    }

    private static void count() {
        OldReckoner x = withLikenesses(new int[] {0, 1, 1, 1}, new int[] {2, 77, 1, 1}, new int[] {4, 19, 1, 1});
        due(30, "count(0)", x.count(0), 3);
        due(30, "count(1)", x.count(1), 0);
        due(30, "count(4)", x.count(4), 4);
        x.drop(1, 1);
        x.drop(2, 1);
        due(30, "count(1)", x.count(1), 2);
        due(30, "count(4), dropped ones too", x.count(4), 4);
        x.forget();
        due(30, "count(0)", x.count(0), 2);
        due(30, "count(1)", x.count(1), 1);
        due(30, "count(4)", x.count(4), 3);
        x.custom(3, 0);
        due(30, "count(2)", x.count(2), 1);
        x.line(0, 5, 0, 0);
        due(30, "count(3)", x.count(3), 1);
        due(30, "count(4), lines not", x.count(4), 3);
        for (int what : new int[] {-1, 5, LEAST, MOST}) {
            refused(30, x, "count(" + what + ")", () -> x.count(what), BAD);
        }
    }
}
