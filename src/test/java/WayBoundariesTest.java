/** Promises 13 to 19, ways and quarrels: each sentence that names a boundary case, by itself. */
public final class WayBoundariesTest {
    private static final long BAD = OldReckoner.BAD;
    private static final long LARGE = OldReckoner.LARGE;
    private static final long NONE = OldReckoner.NONE;
    private static final int LEAST = Bench.LEAST;
    private static final int MOST = Bench.MOST;
    private static final int[] ONES = {1, 1, 1, 1, 1, 1, 1, 1, 1};

    private WayBoundariesTest() {
    }

    public static void main(String[] args) {
        Bench.runAll(WayBoundariesTest.class);
    }

    /** Three likenesses of each measure up to 7 with the next one: the most ways there are in a chain. */
    private static OldReckoner threefoldChain() {
        OldReckoner x = new OldReckoner();
        for (int n = 0; n < 24; n++) {
            x.likeness(0, n / 3 * 11 + 1, 1, 1);
        }
        return x;
    }

    /** LOW from 0 to 6 is 1 by 1.8 * 10^15, HIGH 1 by 6 * 10^14. */
    private static OldReckoner lowAloneLarge() {
        OldReckoner x = Bench.with(new int[] {2, 1, 1, 1}, new int[] {0, 12, 1, 1000}, new int[] {0, 23, 1, 1000},
                new int[] {0, 34, 1, 1000}, new int[] {0, 45, 1, 1000}, new int[] {0, 56, 1, 900});
        x.doubt(0, 1, 500);
        return x;
    }

    /** LOW from 0 to 5 is 5 * 10^14, HIGH 1.5 * 10^15. */
    private static OldReckoner highAloneLarge() {
        OldReckoner x = Bench.with(new int[] {2, 1, 1000, 1}, new int[] {0, 12, 1000, 1}, new int[] {0, 23, 1000, 1},
                new int[] {0, 34, 1000, 1}, new int[] {0, 45, 1000, 1});
        x.doubt(0, 1, 500);
        return x;
    }

    // ---- promise 13: ways

    private static void waysIsBad(int[]... rows) {
        Bench.eachRefused(BAD, "ways", (x, a) -> x.ways(a[0], a[1]), rows);
    }

    static void promise13NoMeasuresAreBad() {
        waysIsBad(new int[] {-1, 0}, new int[] {100, 0}, new int[] {LEAST, 0}, new int[] {MOST, 0});
    }

    static void promise13NoPlaceAndDayIsBad() {
        waysIsBad(new int[] {1, -1}, new int[] {1, 80000}, new int[] {1, LEAST}, new int[] {1, MOST});
    }

    static void promise13LeastAndGreatestMeasures() {
        OldReckoner x = Bench.with(new int[] {0, 89, 1, 1});
        Bench.due("ways(0, 0)", x.ways(0, 0), 1);
        Bench.due("ways(99, 0)", x.ways(99, 0), 1);
        Bench.due("ways(98, 0)", x.ways(98, 0), 1);
        Bench.due("ways(89, 0)", x.ways(89, 0), 1);
        Bench.due("ways(90, 0)", x.ways(90, 0), 0);
    }

    static void promise13LeastAndGreatestPlaceAndDay() {
        OldReckoner x = Bench.with(new int[] {0, 1, 1, 1}, new int[] {0, 1, 1, 1});
        x.holds(0, 0, 0, 0);
        x.holds(1, 7, 9999, 9999);
        Bench.due("ways(1, 0)", x.ways(1, 0), 1);
        Bench.due("ways(1, 1)", x.ways(1, 1), 0);
        Bench.due("ways(1, 79999)", x.ways(1, 79999), 1);
        Bench.due("ways(1, 79998)", x.ways(1, 79998), 0);
        Bench.due("ways(1, 70000)", x.ways(1, 70000), 1);
    }

    static void promise13DayBehindTheLastIsTheNextPlacesFirst() {
        OldReckoner x = Bench.with(new int[] {0, 1, 1, 1});
        x.holds(0, 1, 0, 0);
        Bench.due("ways(1, 9999)", x.ways(1, 9999), 0);
        Bench.due("ways(1, 10000)", x.ways(1, 10000), 1);
        Bench.due("ways(1, 10001)", x.ways(1, 10001), 0);
    }

    static void promise13WithoutLikenessesThereIsNone() {
        Bench.due("ways(1, 0)", new OldReckoner().ways(1, 0), 0);
    }

    static void promise13ToItselfThereIsOneWithoutLikenesses() {
        Bench.due("ways(11, 0)", new OldReckoner().ways(11, 0), 1);
    }

    static void promise13OfAllTwentyFour() {
        Bench.due("ways(8, 0)", threefoldChain().ways(8, 0), 6561);
        OldReckoner beside = new OldReckoner();
        for (int n = 0; n < 24; n++) {
            beside.likeness(0, n % 2 == 0 ? 9 : 90, 1, 1);
        }
        Bench.due("ways(9, 0)", beside.ways(9, 0), 24);
        Bench.due("ways(90, 0)", beside.ways(90, 0), 24);
    }

    static void promise13AreCountedAlsoWhereTheyAreLarge() {
        Bench.due("ways(5, 0)", highAloneLarge().ways(5, 0), 1);
    }

    // ---- promise 14: way

    private static void wayAnswers(long want, int[]... rows) {
        Bench.eachRefused(want, "way", (x, a) -> x.way(a[0], a[1], a[2], a[3]), rows);
    }

    static void promise14NoMeasuresAreBad() {
        wayAnswers(BAD, new int[] {-1, 0, 0, 0}, new int[] {100, 0, 0, 0}, new int[] {LEAST, 0, 0, 0},
                new int[] {MOST, 0, 0, 0});
    }

    static void promise14NoPlaceAndDayIsBad() {
        wayAnswers(BAD, new int[] {1, -1, 0, 0}, new int[] {1, 80000, 0, 0}, new int[] {1, LEAST, 0, 0},
                new int[] {1, MOST, 0, 0});
    }

    static void promise14KBelow0IsBad() {
        wayAnswers(BAD, new int[] {1, 0, -1, 0}, new int[] {1, 0, LEAST, 0});
    }

    static void promise14IBelow0IsBad() {
        wayAnswers(BAD, new int[] {1, 0, 0, -1}, new int[] {1, 0, 0, LEAST});
    }

    static void promise14BadStandsAheadOfNone() {
        wayAnswers(BAD, new int[] {9, 0, -1, 0}, new int[] {9, 0, 0, -1}, new int[] {1, 0, MOST, -1},
                new int[] {1, 0, -1, MOST});
    }

    /** From 0 to 1 there are two ways, of one likeness and of two. */
    private static OldReckoner twoWays() {
        return Bench.with(new int[] {0, 1, 1, 1}, new int[] {0, 2, 1, 1}, new int[] {0, 12, 1, 1});
    }

    static void promise14NotSoManyWaysIsNone() {
        OldReckoner x = twoWays();
        Bench.due("way(1, 0, 1, 0)", x.way(1, 0, 1, 0), 1);
        Bench.due("way(1, 0, 2, 0)", x.way(1, 0, 2, 0), NONE);
        Bench.due("way(1, 0, most, 0)", x.way(1, 0, MOST, 0), NONE);
    }

    static void promise14NotSoManyLikenessesIsNone() {
        OldReckoner x = twoWays();
        Bench.due("way(1, 0, 0, 0)", x.way(1, 0, 0, 0), 0);
        Bench.due("way(1, 0, 0, 1)", x.way(1, 0, 0, 1), NONE);
        Bench.due("way(1, 0, 1, 1)", x.way(1, 0, 1, 1), 102);
        Bench.due("way(1, 0, 1, 2)", x.way(1, 0, 1, 2), NONE);
        Bench.due("way(1, 0, 1, most)", x.way(1, 0, 1, MOST), NONE);
    }

    static void promise14NoWayIsNone() {
        Bench.due("way(9, 0, 0, 0)", twoWays().way(9, 0, 0, 0), NONE);
        Bench.due("way(1, 0, 0, 0) without likenesses", new OldReckoner().way(1, 0, 0, 0), NONE);
    }

    static void promise14EmptyWayHasNone() {
        Bench.due("way(11, 0, 0, 0)", twoWays().way(11, 0, 0, 0), NONE);
        Bench.due("way(11, 0, 1, 0)", twoWays().way(11, 0, 1, 0), NONE);
    }

    static void promise14LeastAndGreatestNumberTurnedAndNot() {
        OldReckoner x = new OldReckoner();
        for (int n = 0; n < 24; n++) {
            x.likeness(0, 9, 1, 1);
        }
        Bench.due("way(9, 0, 0, 0)", x.way(9, 0, 0, 0), 0);
        Bench.due("way(90, 0, 0, 0)", x.way(90, 0, 0, 0), 100);
        Bench.due("way(9, 0, 23, 0)", x.way(9, 0, 23, 0), 23);
        Bench.due("way(90, 0, 23, 0)", x.way(90, 0, 23, 0), 123);
        Bench.due("way(90, 0, 24, 0)", x.way(90, 0, 24, 0), NONE);
    }

    static void promise14LastOfTheMostWays() {
        Bench.wayIs(threefoldChain(), 8, 6560, 2, 5, 8, 11, 14, 17, 20, 23);
        Bench.due("way(8, 0, 6561, 0)", threefoldChain().way(8, 0, 6561, 0), NONE);
    }

    static void promise14IsToldAlsoWhereItIsLarge() {
        Bench.wayIs(highAloneLarge(), 5, 0, 0, 1, 2, 3, 4);
    }

    // ---- promise 15: factor

    private static void factorIsBad(int[]... rows) {
        Bench.eachRefused(BAD, "factor", (x, a) -> x.factor(a[0], a[1], a[2], a[3]), rows);
    }

    static void promise15NoMeasuresAreBad() {
        factorIsBad(new int[] {-1, 0, 0, 0}, new int[] {100, 0, 0, 0}, new int[] {LEAST, 0, 0, 0},
                new int[] {MOST, 0, 0, 0});
    }

    static void promise15NoPlaceAndDayIsBad() {
        factorIsBad(new int[] {1, -1, 0, 0}, new int[] {1, 80000, 0, 0}, new int[] {1, LEAST, 0, 0},
                new int[] {1, MOST, 0, 0});
    }

    static void promise15EndBelow0OrAbove1IsBad() {
        factorIsBad(new int[] {1, 0, -1, 0}, new int[] {1, 0, 2, 0}, new int[] {1, 0, LEAST, 0},
                new int[] {1, 0, MOST, 0});
    }

    static void promise15PartBelow0OrAbove1IsBad() {
        factorIsBad(new int[] {1, 0, 0, -1}, new int[] {1, 0, 0, 2}, new int[] {1, 0, 0, LEAST},
                new int[] {1, 0, 0, MOST});
    }

    static void promise15BadStandsAheadOfNone() {
        factorIsBad(new int[] {9, 0, 2, 0}, new int[] {9, 0, 0, 2}, new int[] {9, 0, -1, 0},
                new int[] {9, 0, 0, -1});
    }

    static void promise15BadStandsAheadOfLarge() {
        Bench.refused(BAD, "factor(5, 0, 2, 0)", WayBoundariesTest::highAloneLarge, x -> x.factor(5, 0, 2, 0));
        Bench.refused(BAD, "factor(5, 0, 0, 2)", WayBoundariesTest::highAloneLarge, x -> x.factor(5, 0, 0, 2));
    }

    static void promise15NoWayIsNone() {
        for (int i = 0; i < 4; i++) {
            int at = i;
            Bench.refused(NONE, "factor(9, 0, .., ..)", x -> x.factor(9, 0, at / 2, at % 2));
        }
        Bench.due("factor(1, 0, 0, 0) without likenesses", new OldReckoner().factor(1, 0, 0, 0), NONE);
    }

    static void promise15LeastAndGreatestPlaceAndDay() {
        OldReckoner x = Bench.with(new int[] {0, 1, 3, 1}, new int[] {0, 1, 5, 1});
        x.holds(0, 0, 0, 0);
        x.holds(1, 7, 9999, 9999);
        Bench.due("factor(1, 0, 0, 0)", x.factor(1, 0, 0, 0), 3);
        Bench.due("factor(1, 79999, 0, 0)", x.factor(1, 79999, 0, 0), 5);
        Bench.due("factor(1, 9999, 0, 0)", x.factor(1, 9999, 0, 0), NONE);
    }

    static void promise15HighAloneLargeIsLargeWhicheverIsAsked() {
        Bench.factorIsLarge(highAloneLarge(), 5);
        Bench.factorIs(highAloneLarge(), 4, 0, 500000000000L, 1);
        Bench.factorIs(highAloneLarge(), 4, 1, 1500000000000L, 1);
    }

    static void promise15LowAloneLargeIsLargeWhicheverIsAsked() {
        Bench.factorIsLarge(lowAloneLarge(), 6);
        Bench.factorIs(lowAloneLarge(), 5, 0, 1, 2000000000000L);
        Bench.factorIs(lowAloneLarge(), 5, 1, 3, 2000000000000L);
    }

    /** The longer way is LARGE, THE WAY is not. */
    static void promise15OnlyTheWayItselfMayBeLarge() {
        OldReckoner x = highAloneLarge();
        x.likeness(0, 5, 7, 1);
        Bench.factorIs(x, 5, 0, 7, 1);
        Bench.factorIs(x, 5, 1, 7, 1);
    }

    // ---- promise 16: span

    private static void spanIsBad(int[]... rows) {
        Bench.eachRefused(BAD, "span", (x, a) -> x.span(a[0], a[1], a[2], a[3]), rows);
    }

    static void promise16NoMeasuresAreBad() {
        spanIsBad(new int[] {-1, 0, 0, 0}, new int[] {100, 0, 0, 0}, new int[] {LEAST, 0, 0, 0},
                new int[] {MOST, 0, 0, 0});
    }

    static void promise16NoPlaceAndDayIsBad() {
        spanIsBad(new int[] {1, -1, 0, 0}, new int[] {1, 80000, 0, 0}, new int[] {1, LEAST, 0, 0},
                new int[] {1, MOST, 0, 0});
    }

    static void promise16EndOrPartBelow0OrAbove1IsBad() {
        spanIsBad(new int[] {1, 0, -1, 0}, new int[] {1, 0, 2, 0}, new int[] {1, 0, 0, -1}, new int[] {1, 0, 0, 2},
                new int[] {1, 0, MOST, 0}, new int[] {1, 0, 0, LEAST});
    }

    static void promise16BadStandsAheadOfNone() {
        spanIsBad(new int[] {9, 0, 2, 0}, new int[] {9, 0, 0, 2}, new int[] {9, 0, -1, 0}, new int[] {9, 0, 0, -1});
    }

    static void promise16BadStandsAheadOfLarge() {
        Bench.refused(BAD, "span(5, 0, 2, 0)", WayBoundariesTest::highAloneLarge, x -> x.span(5, 0, 2, 0));
        Bench.refused(BAD, "span(5, 0, 0, 2)", WayBoundariesTest::highAloneLarge, x -> x.span(5, 0, 0, 2));
    }

    static void promise16NoWayIsNone() {
        for (int i = 0; i < 4; i++) {
            int at = i;
            Bench.refused(NONE, "span(9, 0, .., ..)", x -> x.span(9, 0, at / 2, at % 2));
        }
        Bench.due("span(1, 0, 0, 0) without likenesses", new OldReckoner().span(1, 0, 0, 0), NONE);
    }

    static void promise16OfOneWayIsThatWays() {
        OldReckoner x = Bench.with(new int[] {2, 1, 1, 1});
        x.doubt(0, 1, 500);
        Bench.spanIs(x, 1, 0, 1, 2);
        Bench.spanIs(x, 1, 1, 3, 2);
        Bench.spanIs(x, 10, 0, 2, 3);
        Bench.spanIs(x, 10, 1, 2, 1);
    }

    /** One way's LOW alone, or HIGH alone, is LARGE; another way is not. */
    static void promise16AnyWayLargeIsLargeWhicheverIsAsked() {
        OldReckoner high = highAloneLarge();
        high.likeness(0, 5, 7, 1);
        Bench.spanIsLarge(high, 5);
        OldReckoner low = lowAloneLarge();
        low.likeness(0, 6, 7, 1);
        Bench.spanIsLarge(low, 6);
    }

    static void promise16TheLastWayLargeIsLarge() {
        OldReckoner x = Bench.with(new int[] {0, 5, 7, 1}, new int[] {0, 1, 1000, 1}, new int[] {0, 12, 1000, 1},
                new int[] {0, 23, 1000, 1}, new int[] {0, 34, 1000, 1}, new int[] {0, 45, 1000, 1});
        Bench.spanIsLarge(x, 5);
        x.forget();
        x.likeness(0, 45, 999, 1);
        Bench.spanIs(x, 5, 0, 7, 1);
        Bench.spanIs(x, 5, 1, 999000000000000L, 1);
    }

    /** The way that is met first is not LARGE; of the later one LOW alone, or HIGH alone, is. */
    static void promise16ALaterWaysOneEndLargeIsLarge() {
        OldReckoner high = Bench.with(new int[] {0, 5, 7, 1}, new int[] {2, 1, 1000, 1}, new int[] {0, 12, 1000, 1},
                new int[] {0, 23, 1000, 1}, new int[] {0, 34, 1000, 1}, new int[] {0, 45, 1000, 1});
        high.doubt(1, 1, 500);
        Bench.spanIsLarge(high, 5);
        OldReckoner low = Bench.with(new int[] {0, 5, 7, 1}, new int[] {2, 1, 1, 1000}, new int[] {0, 12, 1, 1000},
                new int[] {0, 23, 1, 1000}, new int[] {0, 34, 1, 1000}, new int[] {0, 45, 1, 900});
        low.doubt(1, 1, 500);
        Bench.spanIsLarge(low, 5);
    }

    static void promise16AWayThatDoesNotCountMayBeLarge() {
        OldReckoner x = highAloneLarge();
        x.likeness(0, 5, 7, 1);
        x.drop(0, 1);
        Bench.spanIs(x, 5, 0, 7, 1);
        Bench.spanIs(x, 5, 1, 7, 1);
    }

    // ---- promise 17: quarrel

    private static void quarrelAnswers(long want, int[]... rows) {
        Bench.eachRefused(want, "quarrel", (x, a) -> x.quarrel(a[0], a[1]), rows);
    }

    static void promise17NoPlaceAndDayIsBad() {
        quarrelAnswers(BAD, new int[] {-1, 0}, new int[] {80000, 0}, new int[] {LEAST, 0}, new int[] {MOST, 0});
    }

    static void promise17IBelow0IsBad() {
        quarrelAnswers(BAD, new int[] {0, -1}, new int[] {0, LEAST});
    }

    /** A ring of 10^15 and a likeness of a measure with itself, which is a quarrel. */
    private static OldReckoner largeRing() {
        OldReckoner x = Bench.chain(new int[] {1000, 1000, 1000, 1000}, ONES);
        x.likeness(0, 40, 1000, 1);
        x.likeness(0, 99, 2, 1);
        return x;
    }

    static void promise17BadStandsAheadOfLarge() {
        Bench.refused(BAD, "quarrel(0, -1)", WayBoundariesTest::largeRing, x -> x.quarrel(0, -1));
    }

    static void promise17BadStandsAheadOfNone() {
        Bench.refused(BAD, "quarrel(0, -1)", OldReckoner::new, x -> x.quarrel(0, -1));
        Bench.refused(BAD, "quarrel(80000, 0)", OldReckoner::new, x -> x.quarrel(80000, 0));
    }

    static void promise17NoQuarrelIsNone() {
        Bench.due("quarrel(0, 0)", twoWays().quarrel(0, 0), NONE);
        Bench.due("quarrel(0, most)", twoWays().quarrel(0, MOST), NONE);
        Bench.due("quarrel(79999, 0)", twoWays().quarrel(79999, 0), NONE);
    }

    static void promise17NotSoManyIsNone() {
        OldReckoner x = Bench.with(new int[] {0, 1, 2, 1}, new int[] {0, 1, 3, 1});
        Bench.due("quarrel(0, 0)", x.quarrel(0, 0), 100);
        Bench.due("quarrel(0, 1)", x.quarrel(0, 1), 1);
        Bench.due("quarrel(0, 2)", x.quarrel(0, 2), NONE);
        Bench.due("quarrel(0, most)", x.quarrel(0, MOST), NONE);
    }

    static void promise17AnyRingLargeIsLargeThoughAnotherIsTheQuarrel() {
        for (int i : new int[] {0, 1, 9, MOST}) {
            Bench.refused(LARGE, "quarrel(0, " + i + ")", WayBoundariesTest::largeRing, x -> x.quarrel(0, i));
        }
    }

    static void promise17RingJustUnderIsNotLarge() {
        OldReckoner x = Bench.chain(new int[] {557, 698, 979, 581, 646}, ONES);
        x.likeness(0, 50, 7, 1);
        Bench.quarrelIs(x, 0, 1, 2, 3, 4, 5);
    }

    static void promise17RingLargeOnTheWayAloneIsLarge() {
        OldReckoner x = Bench.chain(new int[] {1000, 1000, 1000, 1000, 1000, 1},
                new int[] {1, 1, 1, 1, 1, 1000});
        Bench.due("quarrel(0, 0) of no ring", x.quarrel(0, 0), NONE);
        x.likeness(0, 60, 1, 1000);
        Bench.due("quarrel(0, 0)", x.quarrel(0, 0), LARGE);
    }

    static void promise17RingWhoseHighAloneIsLargeIsLarge() {
        OldReckoner x = highAloneLarge();
        Bench.due("quarrel(0, 0) of no ring", x.quarrel(0, 0), NONE);
        x.likeness(0, 56, 1, 1);
        x.likeness(0, 60, 1, 1);
        Bench.due("quarrel(0, 0)", x.quarrel(0, 0), LARGE);
    }

    static void promise17RingWhoseLowAloneIsLargeIsLarge() {
        OldReckoner x = lowAloneLarge();
        x.likeness(0, 60, 1, 1);
        Bench.due("quarrel(0, 0)", x.quarrel(0, 0), LARGE);
    }

    private static OldReckoner doubtfulRing(int[] p, int[] q) {
        OldReckoner x = Bench.with(new int[] {2, 1, 1, 1});
        for (int i = 0; i < 9; i++) {
            x.likeness(0, 10 * (i + 1) + (i + 2) % 10, p[i], q[i]);
        }
        x.doubt(0, 1, 500);
        return x;
    }

    /** On the way LOW is 1 by 1.8 * 10^15, HIGH 1 by 6 * 10^14; in the other direction both are greater. */
    static void promise17LowAloneLargeOnTheWayInOneDirectionIsLarge() {
        int[] p = {1, 1, 1, 1, 1, 1000, 1000, 1000, 1000};
        int[] q = {1000, 1000, 1000, 1000, 900, 1, 1, 1, 1};
        Bench.due("quarrel(0, 0)", doubtfulRing(p, q).quarrel(0, 0), LARGE);
        q[4] = 499;
        Bench.due("quarrel(0, 0)", doubtfulRing(p, q).quarrel(0, 0), 100);
    }

    /** On the way HIGH is 1.35 * 10^15, LOW a third of it; in the other direction both are less. */
    static void promise17HighAloneLargeOnTheWayInOneDirectionIsLarge() {
        int[] p = {1000, 1000, 1000, 1000, 900, 1, 1, 1, 1};
        int[] q = {1, 1, 1, 1, 1, 1000, 1000, 1000, 1000};
        Bench.due("quarrel(0, 0)", doubtfulRing(p, q).quarrel(0, 0), LARGE);
        p[4] = 666;
        Bench.due("quarrel(0, 0)", doubtfulRing(p, q).quarrel(0, 0), 0);
    }

    static void promise17ARingThatDoesNotCountMayBeLarge() {
        OldReckoner x = largeRing();
        x.holds(4, 3, 5, 5);
        Bench.quarrelIs(x, 5);
        Bench.due("quarrel(30005, 0)", x.quarrel(30005, 0), LARGE);
        Bench.due("quarrel(30004, 0)", x.quarrel(30004, 0), 5);
        Bench.due("quarrel(30006, 0)", x.quarrel(30006, 0), 5);
    }

    /** No ring goes by it: a row that is LARGE, but can't return. */
    static void promise17ARowThatIsNoRingMayBeLarge() {
        OldReckoner x = Bench.chain(new int[] {1000, 1000, 1000, 1000, 1000, 1000}, ONES);
        x.likeness(0, 10, 1, 1);
        Bench.quarrelIs(x, 0, 6);
    }

    static void promise17GreatestNumberTurnedAndNot() {
        OldReckoner x = new OldReckoner();
        for (int n = 0; n < 23; n++) {
            x.likeness(0, 1, 1, 1);
        }
        x.likeness(0, 88, 1, 2);
        Bench.quarrelIs(x, 123);
        x.forget();
        x.likeness(0, 88, 2, 1);
        Bench.quarrelIs(x, 23);
    }

    // ---- promise 18: cure

    static void promise18NoPlaceAndDayIsBad() {
        Bench.eachRefused(BAD, "cure", (x, a) -> x.cure(a[0]), new int[] {-1}, new int[] {80000},
                new int[] {LEAST}, new int[] {MOST});
    }

    static void promise18NoQuarrelIs0() {
        Bench.due("cure(0)", twoWays().cure(0), 0);
        Bench.due("cure(79999)", twoWays().cure(79999), 0);
    }

    static void promise18NoneHelpsIsNone() {
        OldReckoner x = Bench.with(new int[] {0, 1, 2, 1}, new int[] {0, 1, 3, 1}, new int[] {2, 1, 4, 1});
        Bench.due("cure(0)", x.cure(0), NONE);
        Bench.due("count(1)", x.count(1), 0);
    }

    static void promise18AnyRingLargeIsLarge() {
        Bench.refused(LARGE, "cure(0)", WayBoundariesTest::largeRing, x -> x.cure(0));
    }

    /** Sure ones are at odds, too: of LARGE and NONE the first stands. */
    static void promise18LargeStandsAheadOfNone() {
        Bench.due("cure(0) of a LARGE ring", largeRing().cure(0), LARGE);
        OldReckoner x = Bench.with(new int[] {0, 99, 2, 1});
        for (int i = 0; i < 11; i++) {
            x.likeness(2, 1, 1, 1);
        }
        Bench.due("cure(0) of eleven to choose from", x.cure(0), LARGE);
        x.forget();
        Bench.due("cure(0) of ten to choose from", x.cure(0), NONE);
    }

    /** One of the LARGE ring could be dropped. */
    static void promise18ALargeRingThatADropWouldOpenIsLarge() {
        OldReckoner x = Bench.chain(new int[] {1000, 1000, 1000, 1000}, ONES);
        x.likeness(2, 40, 1000, 1);
        Bench.due("cure(0)", x.cure(0), LARGE);
        x.drop(4, 1);
        Bench.due("cure(0)", x.cure(0), 0);
    }

    static void promise18BadStandsAheadOfLarge() {
        Bench.refused(BAD, "cure(80000)", WayBoundariesTest::largeRing, x -> x.cure(80000));
        Bench.refused(BAD, "cure(-1)", WayBoundariesTest::largeRing, x -> x.cure(-1));
    }

    static void promise18DropsNothingByItself() {
        OldReckoner x = Bench.furnished();
        Bench.due("cure(0)", x.cure(0), 32);
        Bench.due("cure(0)", x.cure(0), 32);
        Bench.due("count(1)", x.count(1), 1);
    }

    static void promise18LeastAndGreatestNumber() {
        OldReckoner x = Bench.with(new int[] {2, 55, 2, 1});
        Bench.due("cure(0)", x.cure(0), 1);
        for (int n = 1; n < 23; n++) {
            x.likeness(0, 1, 1, 1);
        }
        x.likeness(4, 66, 1, 9);
        Bench.due("cure(0)", x.cure(0), 1 + (1 << 23));
    }

    static void promise18LeastAndGreatestPlaceAndDay() {
        OldReckoner x = Bench.with(new int[] {2, 55, 2, 1}, new int[] {2, 55, 2, 1});
        x.holds(0, 0, 0, 0);
        x.holds(1, 7, 9999, 9999);
        Bench.due("cure(0)", x.cure(0), 1);
        Bench.due("cure(1)", x.cure(1), 0);
        Bench.due("cure(79998)", x.cure(79998), 0);
        Bench.due("cure(79999)", x.cure(79999), 2);
    }

    static void promise18QuarrelLeftWithLowOneIsNone() {
        OldReckoner x = Bench.with(new int[] {2, 1, 10, 1}, new int[] {0, 1, 11, 1});
        x.doubt(0, 1, 100);
        Bench.due("cure(0)", x.cure(0), 0);
        x.doubt(0, 1, 99);
        Bench.due("cure(0)", x.cure(0), 1);
    }

    static void promise18IsReckonedAnewEachTime() {
        OldReckoner x = Bench.with(new int[] {2, 1, 10, 1}, new int[] {0, 1, 11, 1});
        Bench.due("cure(0)", x.cure(0), 1);
        x.doubt(0, 1, 100);
        Bench.due("cure(0)", x.cure(0), 0);
        OldReckoner sure = Bench.with(new int[] {0, 1, 10, 1}, new int[] {0, 1, 11, 1});
        Bench.due("cure(0)", sure.cure(0), NONE);
        sure.forget();
        Bench.due("cure(0)", sure.cure(0), 0);
    }

    static void promise18ASureOneInAForgottenDoubtfulOnesPlace() {
        OldReckoner x = Bench.with(new int[] {2, 55, 2, 1});
        Bench.due("cure(0)", x.cure(0), 1);
        x.forget();
        x.likeness(0, 55, 2, 1);
        x.likeness(2, 1, 1, 1);
        Bench.due("cure(0)", x.cure(0), NONE);
    }

    // ---- promise 19: heal

    static void promise19NoPlaceAndDayIsBad() {
        Bench.eachRefused(BAD, "heal", (x, a) -> x.heal(a[0]), new int[] {-1}, new int[] {80000},
                new int[] {LEAST}, new int[] {MOST});
    }

    static void promise19AnyRingLargeIsLarge() {
        Bench.refused(LARGE, "heal(0)", WayBoundariesTest::largeRing, x -> x.heal(0));
    }

    static void promise19NoneHelpsIsNoneAndDropsNone() {
        Bench.refused(NONE, "heal(0)", () -> Bench.with(new int[] {0, 1, 2, 1}, new int[] {0, 1, 3, 1},
                new int[] {2, 1, 4, 1}), x -> x.heal(0));
    }

    static void promise19BadStandsAheadOfLarge() {
        Bench.refused(BAD, "heal(80000)", WayBoundariesTest::largeRing, x -> x.heal(80000));
    }

    static void promise19LargeStandsAheadOfNone() {
        OldReckoner x = Bench.with(new int[] {0, 99, 2, 1});
        for (int i = 0; i < 11; i++) {
            x.likeness(2, 1, 1, 1);
        }
        Bench.due("heal(0)", x.heal(0), LARGE);
        Bench.due("count(1)", x.count(1), 0);
    }

    static void promise19NoQuarrelDropsNone() {
        OldReckoner x = Bench.with(new int[] {2, 1, 1, 1}, new int[] {4, 12, 1, 1});
        Bench.due("heal(0)", x.heal(0), 0);
        Bench.due("count(1)", x.count(1), 0);
    }

    static void promise19DropsTheCureAndNoOther() {
        OldReckoner x = Bench.furnished();
        Bench.due("heal(0)", x.heal(0), 1);
        for (int n = 0; n < 6; n++) {
            Bench.due("told(" + n + ", 10)", x.told(n, 10), n < 4 ? 0 : 1);
        }
        Bench.due("quarrel(0, 0)", x.quarrel(0, 0), NONE);
    }

    static void promise19AgainDropsNoneMore() {
        OldReckoner x = Bench.furnished();
        x.heal(0);
        Bench.due("heal(0)", x.heal(0), 0);
        Bench.due("count(1)", x.count(1), 2);
    }

    static void promise19DropsTheLeastAndTheGreatestNumber() {
        OldReckoner x = Bench.with(new int[] {4, 55, 9, 1});
        for (int n = 1; n < 23; n++) {
            x.likeness(0, 1, 1, 1);
        }
        x.likeness(2, 66, 1, 9);
        Bench.due("heal(0)", x.heal(0), 2);
        Bench.due("told(0, 10)", x.told(0, 10), 1);
        Bench.due("told(23, 10)", x.told(23, 10), 1);
        Bench.due("count(1)", x.count(1), 2);
    }
}
