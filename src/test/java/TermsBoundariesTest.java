import java.math.BigInteger;

/** 'Terms' and the four parts under it: each sentence that names a boundary case, by itself. */
public final class TermsBoundariesTest {
    private static final long BAD = OldReckoner.BAD;
    private static final long LARGE = OldReckoner.LARGE;
    private static final long NONE = OldReckoner.NONE;
    private static final long NOTHING = OldReckoner.NOTHING;
    private static final long FULL = OldReckoner.FULL;
    private static final int[] ONES = {1, 1, 1, 1, 1, 1, 1, 1, 1};
    private static final int[] THOUSANDS = {1000, 1000, 1000, 1000, 1000};
    /** Their product is the greatest below 10^15 that numbers up to 1000 make. */
    private static final int[] JUST_UNDER = {557, 698, 979, 581, 646, 7};
    private static final long UNDER = 1000000000000000L - 692;

    private TermsBoundariesTest() {
    }

    public static void main(String[] args) {
        Bench.runAll(TermsBoundariesTest.class);
    }

    // ---- fractions

    static void fractionIsInLowestTerms() {
        OldReckoner x = Bench.with(new int[] {0, 1, 600, 400});
        x.line(4, 0, 0, 0);
        Bench.endIs(x, 0, 0, 3, 2);
        Bench.factorIs(x, 1, 0, 3, 2);
        Bench.spanIs(x, 1, 1, 3, 2);
        Bench.totalIs(x, 1, 0, 6, 1);
    }

    static void fractionOfEqualTermsIsOneByOne() {
        OldReckoner x = Bench.with(new int[] {0, 1, 1000, 1000});
        Bench.endIs(x, 0, 0, 1, 1);
        Bench.factorIs(x, 10, 1, 1, 1);
    }

    static void fractionOfNothingIsZeroByOne() {
        OldReckoner x = Bench.with(new int[] {0, 1, 1, 7});
        x.line(3, 0, 0, 0);
        x.line(-3, 0, 0, 0);
        Bench.totalIs(x, 1, 0, 0, 1);
        Bench.totalIs(x, 1, 1, 0, 1);
    }

    static void fractionBelowZeroHasItsSignAboveTheLine() {
        OldReckoner x = Bench.with(new int[] {0, 1, 2, 14});
        x.line(-3, 0, 0, 0);
        Bench.totalIs(x, 1, 0, -3, 7);
        Bench.totalIs(x, 1, 1, -3, 7);
    }

    // ---- LARGE products

    static void productOfTenToTheFifteenthIsLarge() {
        Bench.factorIsLarge(Bench.chain(THOUSANDS, ONES), 5);
    }

    static void productJustUnderIsNotLarge() {
        OldReckoner x = Bench.chain(JUST_UNDER, ONES);
        Bench.factorIs(x, 6, 0, UNDER, 1);
        Bench.factorIs(x, 6, 1, UNDER, 1);
    }

    static void productWithTenToTheFifteenthBelowIsLarge() {
        Bench.factorIsLarge(Bench.chain(ONES, THOUSANDS), 5);
        Bench.factorIsLarge(Bench.chain(THOUSANDS, ONES), 50);
    }

    static void productJustUnderBelowTheLineIsNotLarge() {
        Bench.factorIs(Bench.chain(ONES, JUST_UNDER), 6, 0, 1, UNDER);
        Bench.factorIs(Bench.chain(JUST_UNDER, ONES), 60, 1, 1, UNDER);
    }

    /** At the next likeness it is 10^12 again. */
    static void productLargeOnTheWayAloneIsLarge() {
        int[] p = {1000, 1000, 1000, 1000, 1000, 1};
        int[] q = {1, 1, 1, 1, 1, 1000};
        OldReckoner x = Bench.chain(p, q);
        Bench.factorIsLarge(x, 6);
        Bench.factorIs(x, 16, 0, 1000000000L, 1);
    }

    /** 10^15 / 700 and 10^12 * 700 / 7: never LARGE in lowest terms. */
    static void productLargeBeforeItIsInLowestTermsIsNot() {
        int[] p = {1000, 1000, 1000, 1000, 1, 700};
        int[] q = {1, 1, 1, 1, 7, 1};
        Bench.factorIs(Bench.chain(p, q), 6, 0, 100000000000000L, 1);
        Bench.factorIs(Bench.chain(q, p), 6, 0, 1, 100000000000000L);
    }

    static void amountTimesAWayOfTenToTheFifteenthIsLarge() {
        OldReckoner x = Bench.chain(new int[] {1000, 1000, 1000}, ONES);
        x.line(1000000, 0, 0, 0);
        Bench.totalAnswers(x, 3, LARGE);
        x.amend(0, -1000000);
        Bench.totalAnswers(x, 3, LARGE);
    }

    static void amountTimesAWayJustUnderIsNotLarge() {
        OldReckoner x = Bench.chain(new int[] {1000, 1000, 1000}, ONES);
        x.line(999999, 0, 0, 0);
        Bench.totalIs(x, 3, 0, 999999000000000L, 1);
        x.amend(0, -999999);
        Bench.totalIs(x, 3, 1, -999999000000000L, 1);
    }

    // ---- LARGE sums

    private static OldReckoner threeLines(int sign, int last) {
        OldReckoner x = Bench.chain(new int[] {1000, 1000, 1000}, ONES);
        x.line(sign * 999999, 0, 0, 0);
        x.line(sign * 999999, 2, 0, 0);
        x.line(sign * last, 3, 0, 0);
        return x;
    }

    static void sumOfTenToTheFifteenthIsLarge() {
        Bench.totalAnswers(threeLines(1, 1000), 3, LARGE);
    }

    static void sumOfOneLessThanTenToTheFifteenthIsNotLarge() {
        Bench.totalIs(threeLines(1, 999), 3, 0, 999999999999999L, 1);
        Bench.totalIs(threeLines(1, 999), 3, 1, 999999999999999L, 1);
    }

    static void sumBelowZeroOfThatSizeIsLarge() {
        Bench.totalAnswers(threeLines(-1, 1000), 3, LARGE);
    }

    static void sumBelowZeroOfOneLessInSizeIsNotLarge() {
        Bench.totalIs(threeLines(-1, 999), 3, 0, -999999999999999L, 1);
        Bench.totalIs(threeLines(-1, 999), 3, 1, -999999999999999L, 1);
    }

    /** The last line brings it back under 10^15. */
    static void sumLargeOnTheWayAloneIsLarge() {
        OldReckoner x = threeLines(1, 1000);
        x.line(-1000, 3, 0, 0);
        Bench.totalAnswers(x, 3, LARGE);
    }

    /** 1 / (997 * 991 * 983) and 1 / (977 * 971) have some 9 * 10^14 below the line; with 953 it is LARGE. */
    static void sumWithTenToTheFifteenthBelowIsLarge() {
        OldReckoner x = Bench.with(new int[] {0, 10, 1, 997}, new int[] {0, 21, 1, 991}, new int[] {0, 32, 1, 983},
                new int[] {0, 40, 1, 977}, new int[] {0, 54, 1, 971}, new int[] {0, 60, 1, 2});
        x.line(1, 3, 0, 0);
        x.line(1, 5, 0, 0);
        long three = 997L * 991 * 983;
        long two = 977L * 971;
        Bench.totalIs(x, 0, 0, three + two, three * two);
        x.line(1, 6, 0, 0);
        Bench.totalAnswers(x, 0, LARGE);
    }

    private static final long SHARED = 997L * 991;

    /**
     * Lines of a / SHARED and of c / (SHARED * 10^6), c being so chosen that SHARED cancels in their sum: a is
     * 10^12 (from measure 6), or one less (from measure 9), and a * 10^6 so 10^18, or just under it.
     */
    private static OldReckoner farAbove(boolean reaches, int sign, boolean ahead) {
        OldReckoner x = Bench.with(new int[] {0, 10, 1, 997}, new int[] {0, 21, 1, 991}, new int[] {0, 32, 1, 1000},
                new int[] {0, 43, 1, 1000}, new int[] {0, 52, 1000, 1}, new int[] {0, 65, 1000, 1},
                new int[] {0, 72, 101, 1}, new int[] {0, 87, 91, 1}, new int[] {0, 98, 111, 1});
        int amount = sign * (reaches ? 1000000 : 980199);
        int measure = reaches ? 6 : 9;
        if (ahead) {
            x.line(amount, measure, 0, 0);
        }
        x.line((int) (sign * cancels(aboveOf(reaches))), 4, 0, 0);
        if (!ahead) {
            x.line(amount, measure, 0, 0);
        }
        return x;
    }

    private static long aboveOf(boolean reaches) {
        return reaches ? 1000000000000L : 999999999999L;
    }

    /** What, added to a * 10^6, makes it a multiple of SHARED; odd, and no multiple of 5, so that 10^6 stays. */
    private static long cancels(long a) {
        long c = BigInteger.valueOf(a).multiply(BigInteger.valueOf(-1000000L))
                .mod(BigInteger.valueOf(SHARED)).longValueExact();
        if (c % 2 == 0 || c % 5 == 0) {
            c -= SHARED;
        }
        if (c % 2 == 0 || c % 5 == 0) {
            throw new IllegalStateException("no such c of " + a);
        }
        return c;
    }

    private static void farAboveIsDue(int sign, boolean ahead) {
        Bench.totalAnswers(farAbove(true, sign, ahead), 0, LARGE);
        long sum = (aboveOf(false) * 1000000L + cancels(aboveOf(false))) / SHARED;
        OldReckoner x = farAbove(false, sign, ahead);
        Bench.totalIs(x, 0, 0, sign * sum, 1000000L);
        Bench.totalIs(x, 0, 1, sign * sum, 1000000L);
    }

    static void sumWhoseFirstProductIsTenToTheEighteenthIsLarge() {
        farAboveIsDue(1, true);
    }

    static void sumWhoseSecondProductIsTenToTheEighteenthIsLarge() {
        farAboveIsDue(1, false);
    }

    /** a is 10^12 + 10^6 + 1, over SHARED; d / g is 999999, and 735058 makes SHARED cancel. */
    static void sumWhoseFirstProductIsOneLessIsNotLarge() {
        OldReckoner x = Bench.with(new int[] {0, 10, 1, 997}, new int[] {0, 21, 1, 991}, new int[] {0, 32, 1, 999},
                new int[] {0, 43, 1, 91}, new int[] {0, 54, 1, 11}, new int[] {0, 62, 1000, 1},
                new int[] {0, 76, 1000, 1});
        x.line(1000000, 7, 0, 0);
        x.line(1000000, 2, 0, 0);
        x.line(1, 2, 0, 0);
        Bench.totalIs(x, 0, 0, 1000001000001L, SHARED);
        x.line(735058, 5, 0, 0);
        Bench.totalIs(x, 0, 0, (999999999999999999L + 735058) / SHARED, 999999);
        Bench.totalIs(x, 0, 1, (999999999999999999L + 735058) / SHARED, 999999);
    }

    static void sumWhoseFirstProductIsOfThatSizeBelowZeroIsLarge() {
        farAboveIsDue(-1, true);
    }

    static void sumWhoseSecondProductIsOfThatSizeBelowZeroIsLarge() {
        farAboveIsDue(-1, false);
    }

    /** Lines of 1 / (SHARED * b) and c / (SHARED * 983 * 977), c being so chosen that SHARED cancels in their sum. */
    private static OldReckoner farBelow(int b1, int b2, int b3) {
        OldReckoner x = Bench.with(new int[] {0, 10, 1, 997}, new int[] {0, 21, 1, 991}, new int[] {0, 32, 1, b1},
                new int[] {0, 43, 1, b2}, new int[] {0, 54, 1, b3}, new int[] {0, 62, 1, 983},
                new int[] {0, 76, 1, 977});
        x.line(1, 5, 0, 0);
        x.line((int) cancelling((long) b1 * b2 * b3), 7, 0, 0);
        return x;
    }

    private static long cancelling(long b) {
        BigInteger shared = BigInteger.valueOf(SHARED);
        return BigInteger.valueOf(-983L * 977).multiply(BigInteger.valueOf(b).modInverse(shared))
                .mod(shared).longValueExact();
    }

    /** SHARED * 983 * 977 times 1053860 is just under 10^18. */
    static void sumWhoseProductBelowIsJustUnderTenToTheEighteenthIsNotLarge() {
        long b = 790L * 667 * 2;
        long d = 983L * 977;
        Bench.totalIs(farBelow(790, 667, 2), 0, 0, (d + cancelling(b) * b) / SHARED, b * d);
    }

    /** SHARED * 983 * 977 times 1053864 is just above 10^18. */
    static void sumWhoseProductBelowReachesTenToTheEighteenthIsLarge() {
        Bench.totalAnswers(farBelow(984, 357, 3), 0, LARGE);
    }

    // ---- 1: places, days, measures, likenesses

    static void landIsPlaceZeroAndLiesInNone() {
        Bench.refused(BAD, "lies(0, 0)", x -> x.lies(0, 0));
        Bench.due("within(0, 0)", new OldReckoner().within(0, 0), 1);
    }

    static void eachPlaceLiesInTheLandAtFirst() {
        for (int place = 1; place < 8; place++) {
            Bench.due("lies(" + place + ", 0)", new OldReckoner().lies(place, 0), 0);
            Bench.due("within(" + place + ", 0)", new OldReckoner().within(place, 0), 1);
        }
    }

    static void placeIsWithinItself() {
        for (int place = 0; place < 8; place++) {
            Bench.due("within(" + place + ", itself)", Bench.furnished().within(place, place), 1);
        }
    }

    static void placeIsWithinAllThatItLiesInAndSoOn() {
        OldReckoner x = new OldReckoner();
        for (int place = 1; place < 8; place++) {
            x.lies(place, place - 1);
        }
        for (int in = 0; in < 8; in++) {
            Bench.due("within(7, " + in + ")", x.within(7, in), 1);
            Bench.due("within(0, " + in + ")", x.within(0, in), in == 0 ? 1 : 0);
        }
    }

    static void placeIsNotWithinOneThatLiesInIt() {
        OldReckoner x = new OldReckoner();
        x.lies(7, 6);
        Bench.due("within(7, 6)", x.within(7, 6), 1);
        Bench.due("within(6, 7)", x.within(6, 7), 0);
    }

    static void placeIsNotWithinOneBesideIt() {
        OldReckoner x = new OldReckoner();
        x.lies(2, 1);
        x.lies(3, 1);
        Bench.due("within(3, 2)", x.within(3, 2), 0);
        Bench.due("within(2, 3)", x.within(2, 3), 0);
    }

    static void daysAre0To9999() {
        OldReckoner x = Bench.with(new int[] {0, 1, 1, 1});
        Bench.due("counts(0, 0, 0)", x.counts(0, 0, 0), 1);
        Bench.due("counts(0, 0, 9999)", x.counts(0, 0, 9999), 1);
        Bench.due("counts(0, 0, -1)", x.counts(0, 0, -1), BAD);
        Bench.due("counts(0, 0, 10000)", x.counts(0, 0, 10000), BAD);
    }

    static void measuresAre0To9() {
        OldReckoner x = new OldReckoner();
        Bench.due("likeness(0, 0, 1, 1)", x.likeness(0, 0, 1, 1), 0);
        Bench.due("likeness(0, 99, 1, 1)", x.likeness(0, 99, 1, 1), 1);
        Bench.due("line(1, 0, 0, 0)", x.line(1, 0, 0, 0), 0);
        Bench.due("line(1, 9, 0, 0)", x.line(1, 9, 0, 0), 1);
        Bench.due("line(1, -1, 0, 0)", x.line(1, -1, 0, 0), BAD);
        Bench.due("line(1, 10, 0, 0)", x.line(1, 10, 0, 0), BAD);
    }

    static void likenessesAreTwentyFourAtMostNumberedAsTheyCome() {
        OldReckoner x = new OldReckoner();
        for (int n = 0; n < 24; n++) {
            Bench.due("likeness " + n, x.likeness(0, 1, 1, 1), n);
        }
        Bench.due("likeness 24", x.likeness(0, 1, 1, 1), FULL);
    }

    static void kindsOfOnesOwnAndWider() {
        int[][] want = {{1, 0, 0, 0, 0}, {1, 1, 0, 0, 0}, {1, 0, 1, 0, 0}, {1, 1, 0, 1, 0}, {1, 0, 1, 0, 1}};
        for (int kind = 0; kind < 5; kind++) {
            OldReckoner x = Bench.with(new int[] {kind, 1, 1, 1});
            for (int other = 0; other < 5; other++) {
                Bench.due("isOf(one of kind " + kind + ", " + other + ")", x.isOf(0, other), want[kind][other]);
            }
        }
    }

    private static void endsAre(int kind, int spread, long[] low, long[] high) {
        OldReckoner x = Bench.with(new int[] {kind, 1, 5, 3});
        x.doubt(0, 1, spread);
        Bench.endIs(x, 0, 0, low[0], low[1]);
        Bench.endIs(x, 0, 1, high[0], high[1]);
    }

    static void endsOfLikenessTakeNoSpread() {
        endsAre(0, 0, new long[] {5, 3}, new long[] {5, 3});
        endsAre(0, 500, new long[] {5, 3}, new long[] {5, 3});
    }

    static void endsOfHeapedAtLeastAndGreatestSpread() {
        endsAre(1, 0, new long[] {5, 3}, new long[] {5, 3});
        endsAre(1, 500, new long[] {5, 2}, new long[] {5, 2});
    }

    static void endsOfDoubtfulAtLeastAndGreatestSpread() {
        endsAre(2, 0, new long[] {5, 3}, new long[] {5, 3});
        endsAre(2, 500, new long[] {5, 6}, new long[] {5, 2});
    }

    static void endsOfLocalAtLeastAndGreatestSpread() {
        endsAre(3, 0, new long[] {5, 3}, new long[] {5, 3});
        endsAre(3, 500, new long[] {5, 2}, new long[] {5, 2});
    }

    static void endsOfHearsayAtLeastAndGreatestSpread() {
        endsAre(4, 0, new long[] {5, 6}, new long[] {10, 3});
        endsAre(4, 500, new long[] {5, 12}, new long[] {5, 1});
    }

    static void endsWithOneOfAThousandAsSpread() {
        endsAre(1, 1, new long[] {1001, 600}, new long[] {1001, 600});
        endsAre(2, 1, new long[] {333, 200}, new long[] {1001, 600});
        endsAre(4, 1, new long[] {333, 400}, new long[] {1001, 300});
    }

    static void countsFromFirstToLastDayBothTaken() {
        OldReckoner x = Bench.with(new int[] {0, 1, 1, 1});
        x.holds(0, 0, 10, 20);
        Bench.due("counts(0, 0, 9)", x.counts(0, 0, 9), 0);
        Bench.due("counts(0, 0, 10)", x.counts(0, 0, 10), 1);
        Bench.due("counts(0, 0, 20)", x.counts(0, 0, 20), 1);
        Bench.due("counts(0, 0, 21)", x.counts(0, 0, 21), 0);
    }

    static void countsOnOneDayAlone() {
        OldReckoner x = Bench.with(new int[] {0, 1, 1, 1});
        x.holds(0, 0, 0, 0);
        Bench.due("counts(0, 0, 0)", x.counts(0, 0, 0), 1);
        Bench.due("counts(0, 0, 1)", x.counts(0, 0, 1), 0);
        x.holds(0, 0, 9999, 9999);
        Bench.due("counts(0, 0, 9998)", x.counts(0, 0, 9998), 0);
        Bench.due("counts(0, 0, 9999)", x.counts(0, 0, 9999), 1);
    }

    private static OldReckoner atTwoInOneWithThreeIn(int kind) {
        OldReckoner x = Bench.with(new int[] {kind, 1, 1, 1});
        x.lies(2, 1);
        x.lies(3, 2);
        x.holds(0, 2, 0, 9999);
        return x;
    }

    static void countsWithinItsPlaceAndNotAroundIt() {
        long[] want = {0, 0, 1, 1, 0, 0, 0, 0};
        for (int kind : new int[] {0, 1, 2, 4}) {
            for (int place = 0; place < 8; place++) {
                Bench.due("counts(0, " + place + ", 0) of kind " + kind,
                        atTwoInOneWithThreeIn(kind).counts(0, place, 0), want[place]);
            }
        }
    }

    static void localCountsAtItsOwnPlaceAlone() {
        long[] want = {0, 0, 1, 0, 0, 0, 0, 0};
        for (int place = 0; place < 8; place++) {
            Bench.due("counts(0, " + place + ", 0)", atTwoInOneWithThreeIn(3).counts(0, place, 0), want[place]);
        }
    }

    static void localOfTheLandCountsAtTheLandAlone() {
        OldReckoner x = Bench.with(new int[] {3, 1, 1, 1});
        Bench.due("counts(0, 0, 0)", x.counts(0, 0, 0), 1);
        for (int place = 1; place < 8; place++) {
            Bench.due("counts(0, " + place + ", 0)", x.counts(0, place, 0), 0);
        }
    }

    static void droppedDoesNotCount() {
        for (int kind : new int[] {2, 4}) {
            OldReckoner x = Bench.with(new int[] {kind, 1, 1, 1});
            x.drop(0, 1);
            Bench.due("counts(0, 0, 0)", x.counts(0, 0, 0), 0);
            Bench.due("ways(1, 0)", x.ways(1, 0), 0);
            x.drop(0, 0);
            Bench.due("counts(0, 0, 0)", x.counts(0, 0, 0), 1);
            Bench.due("ways(1, 0)", x.ways(1, 0), 1);
        }
    }

    // ---- 2: ways

    static void fromAMeasureToItselfIsTheEmptyWayAlone() {
        OldReckoner x = Bench.with(new int[] {0, 1, 2, 1}, new int[] {0, 10, 3, 1}, new int[] {0, 0, 5, 1});
        for (int pair = 0; pair < 100; pair += 11) {
            Bench.due("ways(" + pair + ", 0)", x.ways(pair, 0), 1);
            Bench.wayIs(x, pair, 0);
            Bench.due("way(" + pair + ", 0, 1, 0)", x.way(pair, 0, 1, 0), NONE);
        }
    }

    static void emptyWayHasOneAndOne() {
        OldReckoner x = Bench.with(new int[] {0, 1, 2, 1}, new int[] {0, 10, 3, 1}, new int[] {0, 0, 5, 1});
        for (int end = 0; end < 2; end++) {
            Bench.factorIs(x, 0, end, 1, 1);
            Bench.spanIs(x, 0, end, 1, 1);
            Bench.factorIs(x, 99, end, 1, 1);
            Bench.spanIs(x, 99, end, 1, 1);
        }
    }

    static void likenessOfAMeasureWithItselfIsInNoWay() {
        OldReckoner x = Bench.with(new int[] {0, 0, 5, 1}, new int[] {0, 1, 3, 1}, new int[] {0, 11, 7, 1});
        Bench.due("ways(1, 0)", x.ways(1, 0), 1);
        Bench.wayIs(x, 1, 0, 1);
        Bench.factorIs(x, 1, 0, 3, 1);
        Bench.spanIs(x, 1, 1, 3, 1);
    }

    static void noMeasureIsMetTwiceInAWay() {
        OldReckoner x = Bench.with(new int[] {0, 1, 1, 1}, new int[] {0, 12, 1, 1}, new int[] {0, 20, 1, 1},
                new int[] {0, 23, 1, 1});
        Bench.due("ways(3, 0)", x.ways(3, 0), 2);
        Bench.wayIs(x, 3, 0, 102, 3);
        Bench.wayIs(x, 3, 1, 0, 1, 3);
    }

    static void longestWayHasNineLikenesses() {
        OldReckoner x = Bench.chain(ONES, ONES);
        Bench.due("ways(9, 0)", x.ways(9, 0), 1);
        Bench.wayIs(x, 9, 0, 0, 1, 2, 3, 4, 5, 6, 7, 8);
        Bench.wayIs(x, 90, 0, 108, 107, 106, 105, 104, 103, 102, 101, 100);
    }

    static void turnedOneIsOneByTheOtherEnd() {
        OldReckoner x = Bench.with(new int[] {2, 1, 1, 1}, new int[] {4, 23, 1, 1});
        x.doubt(0, 1, 500);
        Bench.factorIs(x, 10, 0, 2, 3);
        Bench.factorIs(x, 10, 1, 2, 1);
        Bench.factorIs(x, 32, 0, 1, 2);
        Bench.factorIs(x, 32, 1, 2, 1);
    }

    static void oneTakenAsItIsHasItsOwnEnds() {
        OldReckoner x = Bench.with(new int[] {2, 1, 1, 1}, new int[] {4, 23, 1, 1});
        x.doubt(0, 1, 500);
        Bench.factorIs(x, 1, 0, 1, 2);
        Bench.factorIs(x, 1, 1, 3, 2);
        Bench.factorIs(x, 23, 0, 1, 2);
        Bench.factorIs(x, 23, 1, 2, 1);
    }

    static void waysOfFewerLikenessesComeFirst() {
        OldReckoner x = Bench.with(new int[] {0, 2, 1, 1}, new int[] {0, 21, 1, 1}, new int[] {0, 1, 1, 1});
        Bench.wayIs(x, 1, 0, 2);
        Bench.wayIs(x, 1, 1, 0, 1);
    }

    static void waysOfAsManyComeByTheirNumbersTurnedOrNot() {
        OldReckoner x = Bench.with(new int[] {0, 10, 1, 1}, new int[] {0, 1, 1, 1});
        Bench.wayIs(x, 1, 0, 100);
        Bench.wayIs(x, 1, 1, 1);
        OldReckoner y = Bench.with(new int[] {0, 1, 1, 1}, new int[] {0, 12, 1, 1}, new int[] {0, 21, 1, 1},
                new int[] {0, 1, 1, 1});
        Bench.wayIs(y, 2, 0, 0, 1);
        Bench.wayIs(y, 2, 1, 0, 102);
        Bench.wayIs(y, 2, 2, 3, 1);
        Bench.wayIs(y, 2, 3, 3, 102);
    }

    static void theWayIsTheFirstOfThem() {
        OldReckoner x = Bench.with(new int[] {0, 2, 1, 1}, new int[] {0, 21, 5, 1}, new int[] {0, 1, 7, 1},
                new int[] {0, 1, 9, 1});
        Bench.factorIs(x, 1, 0, 7, 1);
        Bench.factorIs(x, 1, 1, 7, 1);
    }

    static void spanIsOfTheLeastLowAndTheGreatestHigh() {
        OldReckoner x = Bench.with(new int[] {0, 1, 7, 1}, new int[] {2, 1, 10, 1}, new int[] {0, 10, 1, 13});
        x.doubt(1, 1, 400);
        Bench.spanIs(x, 1, 0, 6, 1);
        Bench.spanIs(x, 1, 1, 14, 1);
        x.doubt(1, 1, 100);
        Bench.spanIs(x, 1, 0, 7, 1);
        Bench.spanIs(x, 1, 1, 13, 1);
    }

    // ---- 2: rings and quarrels

    static void ringOfOneTakenAsItIs() {
        Bench.quarrelIs(Bench.with(new int[] {0, 55, 1000, 999}), 0);
    }

    static void ringOfOneTurned() {
        Bench.quarrelIs(Bench.with(new int[] {0, 55, 999, 1000}), 100);
    }

    static void ringOfOneWithLowOneIsNoQuarrel() {
        Bench.quarrelIs(Bench.with(new int[] {0, 55, 1, 1}));
        OldReckoner doubtful = Bench.with(new int[] {2, 55, 2, 1});
        doubtful.doubt(0, 1, 500);
        Bench.quarrelIs(doubtful);
        doubtful.doubt(0, 1, 499);
        Bench.quarrelIs(doubtful, 0);
    }

    /** LOW is 1 / 2, HIGH 2, and turned likewise. */
    static void ringOfOneAroundOneIsNoQuarrel() {
        Bench.quarrelIs(Bench.with(new int[] {4, 55, 1, 1}));
    }

    static void oneLikenessThereAndBackIsNoRing() {
        Bench.quarrelIs(Bench.with(new int[] {0, 1, 1000, 1}));
        Bench.quarrelIs(Bench.with(new int[] {0, 1, 1, 1000}));
    }

    static void ringOfTwoInOneDirection() {
        Bench.quarrelIs(Bench.with(new int[] {0, 1, 3, 1}, new int[] {0, 1, 2, 1}), 0, 101);
        Bench.quarrelIs(Bench.with(new int[] {0, 1, 3, 1}, new int[] {0, 10, 1, 2}), 0, 1);
    }

    static void ringOfTwoInTheOtherDirection() {
        Bench.quarrelIs(Bench.with(new int[] {0, 1, 2, 1}, new int[] {0, 1, 3, 1}), 100, 1);
        Bench.quarrelIs(Bench.with(new int[] {0, 10, 1, 2}, new int[] {0, 1, 3, 1}), 0, 1);
    }

    static void ringOfTwoWithLowOneIsNoQuarrel() {
        Bench.quarrelIs(Bench.with(new int[] {0, 1, 3, 1}, new int[] {0, 10, 1, 3}));
        OldReckoner x = Bench.with(new int[] {2, 1, 10, 1}, new int[] {0, 1, 11, 1});
        x.doubt(0, 1, 100);
        Bench.quarrelIs(x);
        x.doubt(0, 1, 99);
        Bench.quarrelIs(x, 100, 1);
    }

    static void ringOfThreeInEachDirection() {
        Bench.quarrelIs(Bench.with(new int[] {0, 1, 2, 1}, new int[] {0, 12, 2, 1}, new int[] {0, 20, 1, 3}), 0, 1, 2);
        Bench.quarrelIs(Bench.with(new int[] {0, 1, 2, 1}, new int[] {0, 12, 2, 1}, new int[] {0, 20, 1, 5}),
                100, 102, 101);
    }

    private static OldReckoner ringOfTen(int p, int q) {
        OldReckoner x = Bench.chain(ONES, ONES);
        x.likeness(0, 90, p, q);
        return x;
    }

    static void ringOfTenIsTheLongest() {
        Bench.quarrelIs(ringOfTen(1000, 999), 0, 1, 2, 3, 4, 5, 6, 7, 8, 9);
        Bench.quarrelIs(ringOfTen(999, 1000), 100, 109, 108, 107, 106, 105, 104, 103, 102, 101);
        Bench.quarrelIs(ringOfTen(1, 1));
    }

    /** Two rings of 10^9 share measure 0: the way round both, of 10^18, would be LARGE, but meets it twice. */
    static void ringMeetsNoMeasureTwice() {
        OldReckoner x = Bench.with(new int[] {0, 1, 1000, 1}, new int[] {0, 12, 1000, 1}, new int[] {0, 20, 1000, 1},
                new int[] {0, 3, 1000, 1}, new int[] {0, 34, 1000, 1}, new int[] {0, 40, 1000, 1});
        Bench.quarrelIs(x, 0, 1, 2);
    }

    /** A ring of 10^14, which 999 more would make LARGE. */
    static void likenessOfAMeasureWithItselfIsInNoOtherRing() {
        OldReckoner x = Bench.chain(new int[] {1000, 1000, 1000, 1000}, ONES);
        x.likeness(0, 40, 100, 1);
        x.likeness(0, 22, 999, 1);
        Bench.quarrelIs(x, 5);
    }

    static void quarrelIsOfTheFewestLikenesses() {
        OldReckoner x = Bench.with(new int[] {0, 1, 1, 1}, new int[] {0, 12, 1, 1}, new int[] {0, 20, 2, 1},
                new int[] {0, 34, 2, 1}, new int[] {0, 34, 1, 1});
        Bench.quarrelIs(x, 3, 104);
        x.likeness(0, 99, 1, 2);
        Bench.quarrelIs(x, 105);
    }

    static void quarrelOfAsManyIsTheFirstByNumbersTurnedOrNot() {
        OldReckoner x = Bench.with(new int[] {0, 1, 1, 1}, new int[] {0, 23, 2, 1}, new int[] {0, 23, 1, 1},
                new int[] {0, 1, 3, 1});
        Bench.quarrelIs(x, 100, 3);
        OldReckoner later = Bench.with(new int[] {0, 1, 1, 1}, new int[] {0, 1, 2, 1}, new int[] {0, 1, 1, 2});
        Bench.quarrelIs(later, 100, 1);
        OldReckoner self = Bench.with(new int[] {0, 55, 1, 3}, new int[] {0, 44, 3, 1});
        Bench.quarrelIs(self, 100);
    }

    static void quarrelBeginsWithItsLeastNumber() {
        OldReckoner x = Bench.with(new int[] {0, 77, 1, 1}, new int[] {0, 12, 1, 1}, new int[] {0, 1, 1, 1},
                new int[] {0, 20, 2, 1});
        Bench.quarrelIs(x, 1, 3, 2);
    }

    /** Thousandths and thousandfolds, behind some of no weight, as a ring. */
    private static OldReckoner ringUpAndDown(int idle) {
        int[] p = {1, 1, 1, 1000, 1000, 1000, 1000, 1000, 1, 1};
        int[] q = {1000, 1000, 1000, 1, 1, 1, 1, 1, 1000, 1000};
        OldReckoner x = new OldReckoner();
        for (int n = 0; n < idle; n++) {
            x.likeness(0, 0, 1, 1);
        }
        for (int i = 0; i < 10; i++) {
            x.likeness(0, 10 * i + (i + 1) % 10, p[i], q[i]);
        }
        return x;
    }

    /** From its least number on it is never beyond 10^9 on the way; from its fourth one on it would be 10^15. */
    static void ringIsReckonedFromItsLeastNumberOn() {
        Bench.quarrelIs(ringUpAndDown(0));
        Bench.quarrelIs(ringUpAndDown(14));
        Bench.due("cure(0)", ringUpAndDown(14).cure(0), 0);
    }

    static void withNoLikenessesThereIsNoQuarrel() {
        Bench.quarrelIs(new OldReckoner());
        Bench.due("cure(0)", new OldReckoner().cure(0), 0);
        Bench.due("heal(0)", new OldReckoner().heal(0), 0);
    }

    // ---- 2: the cure

    /** Three that are like 0 to 1: 2, 2 and 3; the third alone is at odds with the others. */
    private static OldReckoner threeDoubtful(int worth0, int worth1, int worth2) {
        OldReckoner x = Bench.with(new int[] {2, 1, 2, 1}, new int[] {2, 1, 2, 1}, new int[] {2, 1, 3, 1});
        x.doubt(0, worth0, 0);
        x.doubt(1, worth1, 0);
        x.doubt(2, worth2, 0);
        return x;
    }

    static void cureIsOfTheLeastWorthTogether() {
        Bench.due("cure(0)", threeDoubtful(50, 49, 100).cure(0), 3);
        Bench.due("cure(0)", threeDoubtful(50, 51, 100).cure(0), 4);
    }

    static void cureOfEqualWorthIsOfTheFewest() {
        Bench.due("cure(0)", threeDoubtful(50, 50, 100).cure(0), 4);
        Bench.due("cure(0) of worth 0", threeDoubtful(0, 0, 0).cure(0), 4);
    }

    static void cureOfEqualWorthAndAsManyIsOfTheLeastBits() {
        OldReckoner x = Bench.with(new int[] {2, 1, 2, 1}, new int[] {2, 1, 3, 1});
        Bench.due("cure(0)", x.cure(0), 1);
        OldReckoner two = Bench.with(new int[] {2, 1, 2, 1}, new int[] {2, 23, 2, 1}, new int[] {2, 1, 3, 1},
                new int[] {2, 23, 3, 1});
        Bench.due("cure(0)", two.cure(0), 3);
    }

    static void cureTakesNoMoreOfWorthNothingThanItNeeds() {
        OldReckoner x = threeDoubtful(0, 0, 0);
        x.likeness(2, 45, 1, 1);
        x.doubt(3, 0, 0);
        Bench.due("cure(0)", x.cure(0), 4);
    }

    static void cureChoosesFromThoseThatCountAlone() {
        OldReckoner x = threeDoubtful(1, 1, 100);
        x.holds(0, 3, 0, 9999);
        Bench.due("cure(0)", x.cure(0), 2);
        x.holds(0, 0, 1, 9999);
        Bench.due("cure(0)", x.cure(0), 2);
        x.holds(0, 0, 0, 9999);
        x.drop(1, 1);
        Bench.due("cure(0)", x.cure(0), 1);
    }

    static void cureDropsHearsayToo() {
        OldReckoner x = Bench.with(new int[] {0, 1, 1, 1}, new int[] {4, 1, 3, 1});
        Bench.due("cure(0)", x.cure(0), 2);
    }

    static void cureDropsNothingThatIsNotDoubtful() {
        for (int kind : new int[] {0, 1, 3}) {
            OldReckoner x = Bench.with(new int[] {kind, 1, 1, 1}, new int[] {kind, 1, 3, 1});
            Bench.due("cure(0) of kind " + kind, x.cure(0), NONE);
        }
    }

    private static OldReckoner doubtfulOnes(int many) {
        OldReckoner x = new OldReckoner();
        for (int i = 0; i < many; i++) {
            x.likeness(i % 2 == 0 ? 2 : 4, 1, 1, 1);
        }
        return x;
    }

    static void tenToChooseFromAreTaken() {
        Bench.due("cure(0)", doubtfulOnes(10).cure(0), 0);
        Bench.due("heal(0)", doubtfulOnes(10).heal(0), 0);
    }

    static void elevenToChooseFromAreLarge() {
        Bench.refused(LARGE, "cure(0)", () -> doubtfulOnes(11), x -> x.cure(0));
        Bench.refused(LARGE, "heal(0)", () -> doubtfulOnes(11), x -> x.heal(0));
    }

    /** One of the eleven is at odds with the others, and would be the cure. */
    static void elevenToChooseFromAreLargeThoughOneWouldHelp() {
        OldReckoner x = Bench.with(new int[] {2, 33, 2, 1});
        for (int i = 0; i < 10; i++) {
            x.likeness(2, 1, 1, 1);
        }
        Bench.due("cure(0) of eleven", x.cure(0), LARGE);
        Bench.due("heal(0) of eleven", x.heal(0), LARGE);
        Bench.due("count(1)", x.count(1), 0);
        Bench.quarrelIs(x, 0);
        x.forget();
        Bench.due("cure(0) of ten", x.cure(0), 1);
    }

    static void elevenOfWhichOneIsDroppedAreTenToChooseFrom() {
        OldReckoner x = doubtfulOnes(11);
        x.drop(10, 1);
        Bench.due("cure(0)", x.cure(0), 0);
    }

    static void elevenOfWhichOneCountsElsewhereAreTenToChooseFrom() {
        OldReckoner x = doubtfulOnes(11);
        x.holds(0, 7, 0, 9999);
        Bench.due("cure(0)", x.cure(0), 0);
        Bench.due("cure(70000)", x.cure(70000), LARGE);
    }

    static void elevenOfWhichOneIsNotDoubtfulAreTenToChooseFrom() {
        OldReckoner x = doubtfulOnes(10);
        for (int kind : new int[] {0, 1, 3}) {
            x.likeness(kind, 1, 1, 1);
        }
        Bench.due("cure(0)", x.cure(0), 0);
    }

    static void allTenMayBeDropped() {
        OldReckoner x = new OldReckoner();
        for (int i = 0; i < 10; i++) {
            x.likeness(2, 1, 1 + i, 1);
        }
        x.likeness(0, 1, 11, 1);
        Bench.due("cure(0)", x.cure(0), 1023);
        Bench.due("heal(0)", x.heal(0), 10);
        Bench.due("count(1)", x.count(1), 10);
    }

    // ---- 3: customs

    static void customsAre0To3() {
        OldReckoner x = new OldReckoner();
        Bench.due("custom(0, 1)", x.custom(0, 1), 1);
        Bench.due("custom(3, 1)", x.custom(3, 1), 1);
        Bench.due("custom(-1, 1)", x.custom(-1, 1), BAD);
        Bench.due("custom(4, 1)", x.custom(4, 1), BAD);
        Bench.due("count(2)", x.count(2), 2);
    }

    static void customsAreMissingAtFirst() {
        for (int c = 0; c < 4; c++) {
            Bench.due("part(" + c + ", 1, 0)", new OldReckoner().part(c, 1, 0), NOTHING);
            Bench.due("whole(" + c + ", 1)", new OldReckoner().whole(c, 1), NOTHING);
            Bench.due("step(" + c + ", 0, 2)", new OldReckoner().step(c, 0, 2), NOTHING);
        }
    }

    /** An empty custom is there, unlike a missing one; all is its greatest part. */
    static void customOfNoStepsHasOnePart() {
        OldReckoner x = new OldReckoner();
        x.custom(0, 0);
        Bench.due("count(2)", x.count(2), 1);
        Bench.due("part(0, 12345, 0)", x.part(0, 12345, 0), 12345);
        Bench.due("part(0, -12345, 0)", x.part(0, -12345, 0), -12345);
        Bench.due("part(0, 12345, 1)", x.part(0, 12345, 1), OldReckoner.INDEX);
        Bench.due("step(0, 0, 2)", x.step(0, 0, 2), OldReckoner.INDEX);
        Bench.due("whole(0, 5006)", x.whole(0, 5006), 6);
    }

    private static OldReckoner withCustom(int... steps) {
        OldReckoner x = new OldReckoner();
        x.custom(0, steps.length);
        for (int i = 0; i < steps.length; i++) {
            x.step(0, i, steps[i]);
        }
        return x;
    }

    private static void partsAre(OldReckoner x, long v, long... parts) {
        for (int i = 0; i < parts.length; i++) {
            Bench.due("part(0, " + v + ", " + i + ")", x.part(0, v, i), parts[i]);
        }
    }

    static void numberIsPartedFromTheLastStepOn() {
        partsAre(withCustom(5, 20, 12), ((7 * 5 + 3) * 20 + 19) * 12 + 11, 7, 3, 19, 11);
    }

    static void eachPartWrapsAroundAtItsStep() {
        partsAre(withCustom(5, 20, 12), 11, 0, 0, 0, 11);
        partsAre(withCustom(5, 20, 12), 12, 0, 0, 1, 0);
        partsAre(withCustom(5, 20, 12), 239, 0, 0, 19, 11);
        partsAre(withCustom(5, 20, 12), 240, 0, 1, 0, 0);
        partsAre(withCustom(5, 20, 12), 1199, 0, 4, 19, 11);
        partsAre(withCustom(5, 20, 12), 1200, 1, 0, 0, 0);
    }

    static void greatestPartTakesAllThatIsLeft() {
        partsAre(withCustom(2), 1999999, 999999, 1);
        partsAre(withCustom(2, 2, 2, 2, 2), 1000000000000000L, 31250000000000L, 0, 0, 0, 0, 0);
    }

    static void partsOfNothingAreNothing() {
        partsAre(withCustom(5, 20, 12), 0, 0, 0, 0, 0);
    }

    static void partsOfANumberBelowZeroHaveTheirSignTurned() {
        partsAre(withCustom(5, 20, 12), -1, 0, 0, 0, -1);
        partsAre(withCustom(5, 20, 12), -12, 0, 0, -1, 0);
        partsAre(withCustom(5, 20, 12), -(((7 * 5 + 3) * 20 + 19) * 12 + 11), -7, -3, -19, -11);
    }

    // ---- 4: accounts

    static void accountHasTwentyLinesAtMost() {
        OldReckoner x = new OldReckoner();
        for (int i = 0; i < 20; i++) {
            Bench.due("line " + i, x.line(i, 0, 0, 0), i);
        }
        Bench.due("line 20", x.line(20, 0, 0, 0), FULL);
        Bench.totalIs(x, 0, 0, 190, 1);
    }

    static void totalOfAnEmptyAccountIsNothingInEachMeasure() {
        for (int measure = 0; measure < 10; measure++) {
            Bench.totalIs(new OldReckoner(), measure, 0, 0, 1);
            Bench.totalIs(new OldReckoner(), measure, 1, 0, 1);
        }
    }

    static void lineOfAnAmountBelowZeroTakesTheOtherEnd() {
        OldReckoner x = Bench.with(new int[] {2, 1, 10, 1});
        x.doubt(0, 1, 100);
        x.line(-1, 0, 0, 0);
        Bench.totalIs(x, 1, 0, -11, 1);
        Bench.totalIs(x, 1, 1, -9, 1);
        x.line(1, 0, 0, 0);
        Bench.totalIs(x, 1, 0, -2, 1);
        Bench.totalIs(x, 1, 1, 2, 1);
    }

    static void lineOfAmountNothingAddsNothing() {
        OldReckoner x = Bench.with(new int[] {4, 1, 1000, 1});
        x.line(0, 0, 0, 0);
        Bench.totalIs(x, 1, 0, 0, 1);
        Bench.totalIs(x, 1, 1, 0, 1);
    }

    static void lineIsReckonedAtItsOwnPlaceAndDay() {
        OldReckoner x = Bench.with(new int[] {3, 1, 2, 1}, new int[] {0, 1, 3, 1}, new int[] {0, 1, 5, 1});
        x.holds(0, 0, 0, 9);
        x.holds(1, 7, 0, 9999);
        x.holds(2, 0, 10, 10);
        x.line(1, 0, 0, 9);
        Bench.totalIs(x, 1, 0, 2, 1);
        x.line(1, 0, 7, 9);
        Bench.totalIs(x, 1, 0, 5, 1);
        x.line(1, 0, 0, 10);
        Bench.totalIs(x, 1, 0, 10, 1);
        x.line(1, 0, 0, 11);
        Bench.totalAnswers(x, 1, NONE);
    }

    // ---- 4: slips

    /** From 90 to 110 of measure 1. */
    private static OldReckoner doubtfulLine(int amount) {
        OldReckoner x = Bench.with(new int[] {2, 1, 10, 1});
        x.doubt(0, 1, 100);
        x.line(amount, 0, 0, 0);
        return x;
    }

    static void rightFromTheLowToTheHighBothTaken() {
        OldReckoner x = doubtfulLine(7);
        Bench.due("slip(1, 63)", x.slip(1, 63), 0);
        Bench.due("slip(1, 77)", x.slip(1, 77), 0);
        Bench.due("slip(1, 62)", x.slip(1, 62), NONE);
        Bench.due("slip(1, 78)", x.slip(1, 78), NONE);
    }

    static void rightFromTheLowToTheHighBelowZero() {
        OldReckoner x = doubtfulLine(-7);
        Bench.due("slip(1, -77)", x.slip(1, -77), 0);
        Bench.due("slip(1, -63)", x.slip(1, -63), 0);
        Bench.due("slip(1, -78)", x.slip(1, -78), NONE);
        Bench.due("slip(1, -62)", x.slip(1, -62), NONE);
    }

    /** From 99 / 7 to 121 / 7: the whole numbers 15 to 17. */
    static void rightBetweenFractionsIsNotRounded() {
        OldReckoner x = Bench.with(new int[] {2, 1, 110, 7});
        x.doubt(0, 1, 100);
        x.line(1, 0, 0, 0);
        Bench.due("slip(1, 14)", x.slip(1, 14), NONE);
        Bench.due("slip(1, 15)", x.slip(1, 15), 0);
        Bench.due("slip(1, 17)", x.slip(1, 17), 0);
        Bench.due("slip(1, 18)", x.slip(1, 18), NONE);
        x.amend(0, -1);
        Bench.due("slip(1, -14)", x.slip(1, -14), NONE);
        Bench.due("slip(1, -15)", x.slip(1, -15), 0);
        Bench.due("slip(1, -17)", x.slip(1, -17), 0);
        Bench.due("slip(1, -18)", x.slip(1, -18), NONE);
    }

    private static OldReckoner amounts(int... amounts) {
        OldReckoner x = new OldReckoner();
        for (int amount : amounts) {
            x.line(amount, 0, 0, 0);
        }
        return x;
    }

    static void slipTwice() {
        Bench.due("slip(0, 17)", amounts(3, 7).slip(0, 17), 11);
        Bench.due("slip(0, -17)", amounts(-3, -7).slip(0, -17), 11);
    }

    static void slipTwiceTheGreatestAmount() {
        Bench.due("slip(0, 2000000)", amounts(1000000).slip(0, 2000000), 1);
        Bench.due("slip(0, -2000000)", amounts(-1000000).slip(0, -2000000), 1);
    }

    static void slipOut() {
        Bench.due("slip(0, 3)", amounts(3, 7).slip(0, 3), 12);
        Bench.due("slip(0, 0)", amounts(7).slip(0, 0), 2);
    }

    /** Twice the first, or the second out, makes 6. */
    static void slipOfOneCostIsFirstByLine() {
        Bench.due("slip(0, 6)", amounts(3, -3, 3).slip(0, 6), 1);
        Bench.due("slip(0, -6)", amounts(-3, 3, -3).slip(0, -6), 1);
    }

    /** 1 of measure i is 1000 of measure i + 1; line 1 is 6 * 10^14 of measure 4, line 0 so many of it. */
    private static OldReckoner greatLines(int first, int... others) {
        OldReckoner x = Bench.chain(new int[] {1000, 1000, 1000, 1000}, ONES);
        x.line(first, 4, 0, 0);
        for (int amount : others) {
            x.line(amount, 1, 0, 0);
        }
        return x;
    }

    /** Taken out, the line makes it RIGHT; twice, it is LARGE. */
    static void slipOfOneLineTwiceIsAheadOfOut() {
        Bench.due("slip(4, 7)", greatLines(7, 600000).slip(4, 7), LARGE);
        Bench.due("slip(4, 7)", greatLines(7, 400000).slip(4, 7), 12);
    }

    static void slipThatIsRightIsNotTried() {
        Bench.due("slip(4, 7)", greatLines(7, 600000, -600000).slip(4, 7), 0);
    }

    static void slipAheadOfALargeOneStands() {
        Bench.due("slip(4, 14)", greatLines(7, 600000, -600000).slip(4, 14), 1);
        Bench.due("slip(4, 0)", greatLines(7, 600000, -600000).slip(4, 0), 2);
    }

    static void slipBehindALargeOneIsLarge() {
        Bench.due("slip(4, 12): 12 for 10 of line 0", greatLines(10, 600000, -600000).slip(4, 12), LARGE);
        Bench.due("slip(4, 12): 12 for 10 of line 0", greatLines(10, 400000, -400000).slip(4, 12), 3);
    }

    /** A LARGE one can't be told from a RIGHT one, so that there is no such slip can't be told either. */
    static void slipAmongWhichOneIsLargeAndNoneRightIsLarge() {
        Bench.due("slip(4, 1): twice line 1 is LARGE", greatLines(7, 600000).slip(4, 1), LARGE);
        Bench.due("slip(4, 1): none is LARGE", greatLines(7, 400000).slip(4, 1), NONE);
    }

    /**
     * Below the line TOTAL has some 1.8 * 10^15 on the way, with 1 / 2 in it; with twice the first amount it has
     * half as much, and that would be RIGHT.
     */
    static void slipWhoseTotalAloneIsLargeIsLarge() {
        OldReckoner x = Bench.with(new int[] {0, 10, 1, 2}, new int[] {0, 21, 1, 997}, new int[] {0, 32, 1, 991},
                new int[] {0, 43, 1, 983}, new int[] {0, 54, 1, 977}, new int[] {0, 60, 1, 971},
                new int[] {2, 70, 2, 1});
        x.doubt(6, 1, 500);
        x.line(1, 5, 0, 0);
        x.line(1, 7, 0, 0);
        x.line(-2, 0, 0, 0);
        x.line(1, 6, 0, 0);
        Bench.totalAnswers(x, 0, LARGE);
        Bench.due("slip(0, 0)", x.slip(0, 0), LARGE);
        x.amend(0, 2);
        Bench.due("slip(0, 0) with twice the first amount", x.slip(0, 0), 0);
    }

    static void slipWhoseTotalIsLargeIsLarge() {
        Bench.due("slip(4, 7)", greatLines(7, 600000, 400000).slip(4, 7), LARGE);
        Bench.due("slip(4, 7)", greatLines(7, -600000, -400000).slip(4, 7), LARGE);
    }

    static void slipTwelveForTen() {
        Bench.due("slip(0, 60)", amounts(50).slip(0, 60), 3);
        Bench.due("slip(0, -60)", amounts(-50).slip(0, -60), 3);
        Bench.due("slip(0, 1200000)", amounts(1000000).slip(0, 1200000), 3);
    }

    static void slipTwelveForTenOnlyIfTenDivides() {
        for (int amount : new int[] {9, 11, 15, 25, -25, 5}) {
            Bench.due("slip(0, " + amount * 6 / 5 + ")", amounts(amount).slip(0, amount * 6 / 5), NONE);
        }
        Bench.due("slip(0, 12)", amounts(10).slip(0, 12), 3);
    }

    static void slipTenForTwelve() {
        Bench.due("slip(0, 40)", amounts(48).slip(0, 40), 4);
        Bench.due("slip(0, -40)", amounts(-48).slip(0, -40), 4);
        Bench.due("slip(0, 10)", amounts(12).slip(0, 10), 4);
        Bench.due("slip(0, 833330)", amounts(999996).slip(0, 833330), 4);
    }

    static void slipTenForTwelveOnlyIfTwelveDivides() {
        for (int amount : new int[] {6, 18, 30, -18, 42}) {
            Bench.due("slip(0, " + amount * 5 / 6 + ")", amounts(amount).slip(0, amount * 5 / 6), NONE);
        }
    }

    /** The first line's 12 for 10, or 10 for 12, makes as much as the other line's twice, or out. */
    static void slipOfLessCostIsAheadOfALesserLine() {
        Bench.due("slip(0, 14)", amounts(10, 2).slip(0, 14), 11);
        Bench.due("slip(0, 8)", amounts(12, -2).slip(0, 8), 11);
        Bench.due("slip(0, 12)", amounts(12, 2).slip(0, 12), 12);
    }

    /** 60 for 50 of the second line, and 50 for 60 of the third one, below 0. */
    static void slipOfCostTwoIsFirstByLine() {
        Bench.due("slip(0, 1)", amounts(1, 50, -60).slip(0, 1), 13);
        Bench.due("slip(0, 1)", amounts(1, -60, 50).slip(0, 1), 14);
    }

    /**
     * Of line 0, with D = 5 * 997 * 991 and E = 983 * 977 * 971: 60 / D + 1 / E has some 9 * 10^14 below the
     * line, and so has 50 / D + 1 / E, which makes the sum 0; but 72 / D + 1 / E has five times as much.
     */
    static void slipOfOneLineTwelveForTenIsAheadOfTenForTwelve() {
        OldReckoner x = Bench.with(new int[] {0, 10, 1, 997}, new int[] {0, 21, 1, 991}, new int[] {0, 32, 1, 5},
                new int[] {0, 40, 1, 983}, new int[] {0, 54, 1, 977}, new int[] {0, 65, 1, 971});
        x.line(60, 3, 0, 0);
        x.line(1, 6, 0, 0);
        x.line(-50, 3, 0, 0);
        x.line(-1, 6, 0, 0);
        Bench.totalIs(x, 0, 0, 2, 997 * 991);
        Bench.due("slip(0, 0)", x.slip(0, 0), LARGE);
        x.amend(1, 0);
        x.amend(3, 0);
        Bench.due("slip(0, 0) without 1 / E", x.slip(0, 0), 4);
        x.amend(0, 50);
        Bench.due("slip(0, 0) with 50 / D", x.slip(0, 0), 0);
    }

    static void slipOfAmountNothingHelpsNothing() {
        Bench.due("slip(0, 1)", amounts(0).slip(0, 1), NONE);
        Bench.due("slip(0, 0)", amounts(0).slip(0, 0), 0);
    }
}
