/** Promises 1 to 12, places and likenesses: each sentence that names a boundary case, by itself. */
public final class LikenessBoundariesTest {
    private static final long BAD = OldReckoner.BAD;
    private static final long NO = OldReckoner.NO;
    private static final long FULL = OldReckoner.FULL;
    private static final int LEAST = Bench.LEAST;
    private static final int MOST = Bench.MOST;
    private static final int CALLS = 512;

    private LikenessBoundariesTest() {
    }

    public static void main(String[] args) {
        Bench.runAll(LikenessBoundariesTest.class);
    }

    // ---- promise 1: a new object

    static void promise01AllPlacesLieInTheLand() {
        OldReckoner x = new OldReckoner();
        for (int place = 1; place < 8; place++) {
            for (int in = 1; in < 8; in++) {
                Bench.due("within(" + place + ", " + in + ")", x.within(place, in), place == in ? 1 : 0);
            }
            Bench.due("within(" + place + ", 0)", x.within(place, 0), 1);
        }
    }

    static void promise01NoLikenesses() {
        Bench.due("count(0)", new OldReckoner().count(0), 0);
        Bench.due("count(1)", new OldReckoner().count(1), 0);
        Bench.due("count(4)", new OldReckoner().count(4), 0);
        Bench.due("told(0, 0)", new OldReckoner().told(0, 0), BAD);
        Bench.due("forget()", new OldReckoner().forget(), NO);
    }

    static void promise01NoCustoms() {
        Bench.due("count(2)", new OldReckoner().count(2), 0);
    }

    static void promise01NoLines() {
        Bench.due("count(3)", new OldReckoner().count(3), 0);
        Bench.due("amend(0, 0)", new OldReckoner().amend(0, 0), BAD);
        Bench.due("clear()", new OldReckoner().clear(), 0);
    }

    static void promise01ObjectsStandByThemselves() {
        OldReckoner x = new OldReckoner();
        OldReckoner other = Bench.furnished();
        Bench.due("count(0)", x.count(0), 0);
        Bench.due("count(0) of the other", other.count(0), 6);
        Bench.due("within(5, 2)", x.within(5, 2), 0);
        Bench.due("whole(0, 1)", x.whole(0, 1), OldReckoner.NOTHING);
    }

    static void promise01Used512Times() {
        OldReckoner x = new OldReckoner();
        for (int i = 0; i < CALLS / 2; i++) {
            Bench.due("likeness, call " + 2 * i, x.likeness(0, 1, 1, 1), 0);
            Bench.due("forget, call " + (2 * i + 1), x.forget(), 0);
        }
    }

    // ---- promise 2: lies

    static void promise02LeastAndGreatestPlace() {
        Bench.due("lies(1, 0)", new OldReckoner().lies(1, 0), 0);
        Bench.due("lies(7, 6)", new OldReckoner().lies(7, 6), 0);
    }

    static void promise02AnswersInWhichItLay() {
        OldReckoner x = new OldReckoner();
        Bench.due("lies(7, 6)", x.lies(7, 6), 0);
        Bench.due("lies(7, 1)", x.lies(7, 1), 6);
        Bench.due("lies(7, 1)", x.lies(7, 1), 1);
        Bench.due("lies(7, 0)", x.lies(7, 0), 1);
    }

    static void promise02PlaceBelow1IsBad() {
        Bench.eachRefused(BAD, "lies", (x, a) -> x.lies(a[0], a[1]),
                new int[] {0, 0}, new int[] {-1, 0}, new int[] {-1, -2}, new int[] {LEAST, 0});
    }

    static void promise02PlaceAbove7IsBad() {
        Bench.eachRefused(BAD, "lies", (x, a) -> x.lies(a[0], a[1]),
                new int[] {8, 0}, new int[] {8, 7}, new int[] {MOST, 0}, new int[] {MOST, MOST - 1});
    }

    static void promise02InItselfIsBad() {
        for (int place = 0; place < 8; place++) {
            int it = place;
            Bench.refused(BAD, "lies(" + it + ", " + it + ")", x -> x.lies(it, it));
        }
    }

    static void promise02InAGreaterOneIsBad() {
        Bench.eachRefused(BAD, "lies", (x, a) -> x.lies(a[0], a[1]),
                new int[] {1, 2}, new int[] {5, 6}, new int[] {6, 7}, new int[] {1, 7});
    }

    static void promise02InNoPlaceIsBad() {
        Bench.eachRefused(BAD, "lies", (x, a) -> x.lies(a[0], a[1]),
                new int[] {7, 8}, new int[] {5, -1}, new int[] {5, LEAST}, new int[] {5, MOST});
    }

    // ---- promise 3: within

    static void promise03LeastAndGreatestPlace() {
        Bench.due("within(0, 0)", new OldReckoner().within(0, 0), 1);
        Bench.due("within(7, 7)", new OldReckoner().within(7, 7), 1);
        Bench.due("within(7, 0)", new OldReckoner().within(7, 0), 1);
        Bench.due("within(0, 7)", new OldReckoner().within(0, 7), 0);
    }

    static void promise03NoPlaceIsBad() {
        Bench.eachRefused(BAD, "within", (x, a) -> x.within(a[0], a[1]),
                new int[] {8, 0}, new int[] {-1, 0}, new int[] {LEAST, 0}, new int[] {MOST, 0});
    }

    static void promise03InNoPlaceIsBad() {
        Bench.eachRefused(BAD, "within", (x, a) -> x.within(a[0], a[1]),
                new int[] {0, 8}, new int[] {0, -1}, new int[] {7, LEAST}, new int[] {7, MOST});
    }

    static void promise03NoPlaceInItselfIsBad() {
        Bench.eachRefused(BAD, "within", (x, a) -> x.within(a[0], a[1]),
                new int[] {8, 8}, new int[] {-1, -1});
    }

    static void promise03FollowsAPlaceThatIsMoved() {
        OldReckoner x = new OldReckoner();
        x.lies(6, 5);
        x.lies(7, 6);
        Bench.due("within(7, 5)", x.within(7, 5), 1);
        x.lies(6, 4);
        Bench.due("within(7, 5)", x.within(7, 5), 0);
        Bench.due("within(7, 4)", x.within(7, 4), 1);
    }

    // ---- promise 4: likeness

    static void promise04NumbersFrom0To23() {
        OldReckoner x = new OldReckoner();
        for (int n = 0; n < 24; n++) {
            Bench.due("likeness " + n, x.likeness(n % 5, n, 1, 1), n);
        }
        Bench.due("count(0)", x.count(0), 24);
    }

    private static void toldIs(OldReckoner x, int n, long... want) {
        for (int what = 0; what < want.length; what++) {
            Bench.due("told(" + n + ", " + what + ")", x.told(n, what), want[what]);
        }
    }

    static void promise04BeginsAtTheLandAllDaysWorth1Spread0NotDropped() {
        toldIs(Bench.with(new int[] {4, 37, 5, 9}), 0, 4, 3, 7, 5, 9, 0, 0, 9999, 1, 0, 0);
    }

    static void promise04LeastArgumentsAreTaken() {
        toldIs(Bench.with(new int[] {0, 0, 1, 1}), 0, 0, 0, 0, 1, 1, 0, 0, 9999, 1, 0, 0);
    }

    static void promise04GreatestArgumentsAreTaken() {
        toldIs(Bench.with(new int[] {4, 99, 1000, 1000}), 0, 4, 9, 9, 1000, 1000, 0, 0, 9999, 1, 0, 0);
    }

    static void promise04KeepsTermsAsTold() {
        toldIs(Bench.with(new int[] {0, 12, 600, 400}), 0, 0, 1, 2, 600, 400);
    }

    private static void likenessIsBad(int[]... rows) {
        Bench.eachRefused(BAD, "likeness", (x, a) -> x.likeness(a[0], a[1], a[2], a[3]), rows);
    }

    static void promise04NoKindIsBad() {
        likenessIsBad(new int[] {-1, 1, 1, 1}, new int[] {5, 1, 1, 1}, new int[] {LEAST, 1, 1, 1},
                new int[] {MOST, 1, 1, 1});
    }

    static void promise04NoMeasuresAreBad() {
        likenessIsBad(new int[] {0, -1, 1, 1}, new int[] {0, 100, 1, 1}, new int[] {0, LEAST, 1, 1},
                new int[] {0, MOST, 1, 1});
    }

    static void promise04TermAboveTheLineBelow1OrAbove1000IsBad() {
        likenessIsBad(new int[] {0, 1, 0, 1}, new int[] {0, 1, -1, 1}, new int[] {0, 1, 1001, 1},
                new int[] {0, 1, LEAST, 1}, new int[] {0, 1, MOST, 1});
    }

    static void promise04TermBelowTheLineBelow1OrAbove1000IsBad() {
        likenessIsBad(new int[] {0, 1, 1, 0}, new int[] {0, 1, 1, -1}, new int[] {0, 1, 1, 1001},
                new int[] {0, 1, 1, LEAST}, new int[] {0, 1, 1, MOST});
    }

    private static OldReckoner fullOfLikenesses() {
        OldReckoner x = new OldReckoner();
        for (int n = 0; n < 24; n++) {
            x.likeness(2, n, 1 + n, 1);
        }
        return x;
    }

    static void promise04The25thIsFull() {
        Bench.refused(FULL, "likeness(0, 1, 1, 1)", LikenessBoundariesTest::fullOfLikenesses,
                x -> x.likeness(0, 1, 1, 1));
    }

    static void promise04BadStandsAheadOfFull() {
        int[][] rows = {{5, 1, 1, 1}, {0, 100, 1, 1}, {0, 1, 0, 1}, {0, 1, 1, 1001}};
        for (int[] a : rows) {
            Bench.refused(BAD, "likeness, bad and full", LikenessBoundariesTest::fullOfLikenesses,
                    x -> x.likeness(a[0], a[1], a[2], a[3]));
        }
    }

    static void promise04DroppedOnesStillFillIt() {
        OldReckoner x = fullOfLikenesses();
        x.drop(0, 1);
        Bench.due("likeness(0, 1, 1, 1)", x.likeness(0, 1, 1, 1), FULL);
    }

    static void promise04OneIsTakenAgainAfterForget() {
        OldReckoner x = fullOfLikenesses();
        x.forget();
        Bench.due("likeness(0, 1, 1, 1)", x.likeness(0, 1, 1, 1), 23);
        Bench.due("likeness(0, 1, 1, 1)", x.likeness(0, 1, 1, 1), FULL);
    }

    // ---- promise 5: holds

    static void promise05LeastAndGreatestPlaceAndDays() {
        OldReckoner x = Bench.furnished();
        Bench.due("holds(0, 7, 0, 9999)", x.holds(0, 7, 0, 9999), 0);
        Bench.due("told(0, 5)", x.told(0, 5), 7);
        Bench.due("told(0, 6)", x.told(0, 6), 0);
        Bench.due("told(0, 7)", x.told(0, 7), 9999);
        Bench.due("holds(5, 0, 9999, 9999)", x.holds(5, 0, 9999, 9999), 0);
        Bench.due("told(5, 5)", x.told(5, 5), 0);
        Bench.due("told(5, 6)", x.told(5, 6), 9999);
        Bench.due("told(5, 7)", x.told(5, 7), 9999);
    }

    static void promise05FirstMayBeTheLast() {
        OldReckoner x = Bench.furnished();
        Bench.due("holds(0, 3, 0, 0)", x.holds(0, 3, 0, 0), 0);
        Bench.due("told(0, 6)", x.told(0, 6), 0);
        Bench.due("told(0, 7)", x.told(0, 7), 0);
    }

    private static void holdsIsBad(int[]... rows) {
        Bench.eachRefused(BAD, "holds", (x, a) -> x.holds(a[0], a[1], a[2], a[3]), rows);
    }

    static void promise05NoNumberIsBad() {
        holdsIsBad(new int[] {6, 1, 2, 3}, new int[] {-1, 1, 2, 3}, new int[] {24, 1, 2, 3},
                new int[] {LEAST, 1, 2, 3}, new int[] {MOST, 1, 2, 3});
    }

    static void promise05NoPlaceIsBad() {
        holdsIsBad(new int[] {0, 8, 2, 3}, new int[] {0, -1, 2, 3}, new int[] {0, LEAST, 2, 3},
                new int[] {0, MOST, 2, 3});
    }

    static void promise05NoFirstDayIsBad() {
        holdsIsBad(new int[] {0, 1, -1, 3}, new int[] {0, 1, 10000, 10000}, new int[] {0, 1, LEAST, 3},
                new int[] {0, 1, -2, -1});
    }

    static void promise05NoLastDayIsBad() {
        holdsIsBad(new int[] {0, 1, 2, 10000}, new int[] {0, 1, 0, -1}, new int[] {0, 1, 2, MOST});
    }

    static void promise05FirstAboveTheLastIsBad() {
        holdsIsBad(new int[] {0, 1, 3, 2}, new int[] {0, 1, 1, 0}, new int[] {0, 1, 9999, 9998},
                new int[] {0, 1, 9999, 0});
    }

    static void promise05AForgottenOneIsBad() {
        OldReckoner x = Bench.furnished();
        x.forget();
        Bench.due("holds(5, 0, 0, 0)", x.holds(5, 0, 0, 0), BAD);
        Bench.due("holds(4, 0, 0, 0)", x.holds(4, 0, 0, 0), 0);
    }

    // ---- promise 6: doubt

    static void promise06LeastAndGreatestWorthAndSpread() {
        OldReckoner x = Bench.furnished();
        Bench.due("doubt(0, 0, 0)", x.doubt(0, 0, 0), 0);
        Bench.due("told(0, 8)", x.told(0, 8), 0);
        Bench.due("told(0, 9)", x.told(0, 9), 0);
        Bench.due("doubt(5, 100, 500)", x.doubt(5, 100, 500), 0);
        Bench.due("told(5, 8)", x.told(5, 8), 100);
        Bench.due("told(5, 9)", x.told(5, 9), 500);
    }

    static void promise06OfEachKind() {
        for (int kind = 0; kind < 5; kind++) {
            OldReckoner x = Bench.with(new int[] {kind, 1, 1, 1});
            Bench.due("doubt(0, 100, 500) of kind " + kind, x.doubt(0, 100, 500), 0);
            Bench.due("told(0, 8)", x.told(0, 8), 100);
            Bench.due("told(0, 9)", x.told(0, 9), 500);
        }
    }

    private static void doubtIsBad(int[]... rows) {
        Bench.eachRefused(BAD, "doubt", (x, a) -> x.doubt(a[0], a[1], a[2]), rows);
    }

    static void promise06NoNumberIsBad() {
        doubtIsBad(new int[] {6, 2, 3}, new int[] {-1, 2, 3}, new int[] {24, 2, 3}, new int[] {LEAST, 2, 3},
                new int[] {MOST, 2, 3});
    }

    static void promise06WorthBelow0OrAbove100IsBad() {
        doubtIsBad(new int[] {0, -1, 3}, new int[] {0, 101, 3}, new int[] {0, LEAST, 3}, new int[] {0, MOST, 3});
    }

    static void promise06SpreadBelow0OrAbove500IsBad() {
        doubtIsBad(new int[] {0, 2, -1}, new int[] {0, 2, 501}, new int[] {0, 2, LEAST}, new int[] {0, 2, MOST});
    }

    static void promise06EndsFollowTheNewSpread() {
        OldReckoner x = Bench.with(new int[] {2, 1, 1, 1});
        x.doubt(0, 1, 500);
        x.doubt(0, 1, 0);
        Bench.endIs(x, 0, 0, 1, 1);
        Bench.endIs(x, 0, 1, 1, 1);
    }

    static void promise06ARefusedSpreadLeavesTheEnds() {
        OldReckoner x = Bench.with(new int[] {2, 1, 1, 1});
        x.doubt(0, 1, 500);
        Bench.due("doubt(0, 101, 0)", x.doubt(0, 101, 0), BAD);
        Bench.due("doubt(0, 1, 501)", x.doubt(0, 1, 501), BAD);
        Bench.endIs(x, 0, 0, 1, 2);
        Bench.endIs(x, 0, 1, 3, 2);
    }

    // ---- promise 7: drop

    static void promise07AnswersWhatItWas() {
        for (int kind : new int[] {2, 4}) {
            OldReckoner x = Bench.with(new int[] {kind, 1, 1, 1});
            Bench.due("drop(0, 0)", x.drop(0, 0), 0);
            Bench.due("drop(0, 1)", x.drop(0, 1), 0);
            Bench.due("drop(0, 1)", x.drop(0, 1), 1);
            Bench.due("told(0, 10)", x.told(0, 10), 1);
            Bench.due("drop(0, 0)", x.drop(0, 0), 1);
            Bench.due("told(0, 10)", x.told(0, 10), 0);
        }
    }

    static void promise07NoNumberIsBad() {
        Bench.eachRefused(BAD, "drop", (x, a) -> x.drop(a[0], a[1]), new int[] {6, 1}, new int[] {-1, 1},
                new int[] {24, 1}, new int[] {LEAST, 1}, new int[] {MOST, 1});
    }

    static void promise07OnBelow0OrAbove1IsBad() {
        Bench.eachRefused(BAD, "drop", (x, a) -> x.drop(a[0], a[1]), new int[] {2, 2}, new int[] {2, -1},
                new int[] {4, 2}, new int[] {4, -1}, new int[] {2, LEAST}, new int[] {2, MOST});
    }

    static void promise07NotDoubtfulIsNo() {
        for (int n : new int[] {0, 1, 3}) {
            Bench.refused(NO, "drop(" + n + ", 1)", x -> x.drop(n, 1));
            Bench.refused(NO, "drop(" + n + ", 0)", x -> x.drop(n, 0));
        }
    }

    static void promise07BadStandsAheadOfNo() {
        for (int n : new int[] {0, 1, 3}) {
            Bench.refused(BAD, "drop(" + n + ", 2)", x -> x.drop(n, 2));
            Bench.refused(BAD, "drop(" + n + ", -1)", x -> x.drop(n, -1));
        }
    }

    static void promise07OneThatDoesNotCountIsDroppedToo() {
        OldReckoner x = Bench.with(new int[] {2, 1, 1, 1});
        x.holds(0, 7, 5, 5);
        Bench.due("drop(0, 1)", x.drop(0, 1), 0);
        Bench.due("count(1)", x.count(1), 1);
    }

    // ---- promise 8: forget

    static void promise08AnswersHowManyThereAre() {
        OldReckoner x = fullOfLikenesses();
        for (int n = 23; n >= 0; n--) {
            Bench.due("forget()", x.forget(), n);
        }
    }

    static void promise08WithNoneIsNo() {
        Bench.refused(NO, "forget()", OldReckoner::new, OldReckoner::forget);
    }

    static void promise08AfterTheLastIsNo() {
        OldReckoner x = Bench.with(new int[] {0, 1, 1, 1});
        Bench.due("forget()", x.forget(), 0);
        Bench.due("forget()", x.forget(), NO);
        Bench.due("likeness(0, 1, 1, 1)", x.likeness(0, 1, 1, 1), 0);
    }

    static void promise08TheForgottenOneIsNoMore() {
        OldReckoner x = Bench.with(new int[] {0, 1, 1, 1}, new int[] {2, 12, 1, 1});
        x.drop(1, 1);
        x.forget();
        Bench.due("told(1, 0)", x.told(1, 0), BAD);
        Bench.due("count(1)", x.count(1), 0);
        Bench.due("count(4)", x.count(4), 2);
        Bench.due("ways(12, 0)", x.ways(12, 0), 0);
    }

    static void promise08ANewOneTakesNothingFromTheForgotten() {
        OldReckoner x = Bench.with(new int[] {2, 12, 5, 7});
        x.holds(0, 3, 4, 5);
        x.doubt(0, 6, 70);
        x.drop(0, 1);
        x.forget();
        Bench.due("likeness(2, 34, 1, 1)", x.likeness(2, 34, 1, 1), 0);
        toldIs(x, 0, 2, 3, 4, 1, 1, 0, 0, 9999, 1, 0, 0);
        Bench.endIs(x, 0, 1, 1, 1);
    }

    // ---- promise 9: told

    static void promise09EachFromTheLeastToTheGreatest() {
        OldReckoner x = Bench.with(new int[] {4, 37, 11, 13});
        x.holds(0, 2, 100, 200);
        x.doubt(0, 9, 300);
        x.drop(0, 1);
        toldIs(x, 0, 4, 3, 7, 11, 13, 2, 100, 200, 9, 300, 1);
    }

    static void promise09NoNumberIsBad() {
        Bench.eachRefused(BAD, "told", (x, a) -> x.told(a[0], a[1]), new int[] {6, 0}, new int[] {-1, 0},
                new int[] {24, 0}, new int[] {LEAST, 0}, new int[] {MOST, 0});
    }

    static void promise09WhatBelow0OrAbove10IsBad() {
        Bench.eachRefused(BAD, "told", (x, a) -> x.told(a[0], a[1]), new int[] {0, -1}, new int[] {0, 11},
                new int[] {0, LEAST}, new int[] {0, MOST});
    }

    static void promise09TheLastOfTwentyFour() {
        Bench.due("told(23, 3)", fullOfLikenesses().told(23, 3), 24);
        Bench.due("told(24, 3)", fullOfLikenesses().told(24, 3), BAD);
    }

    // ---- promise 10: isOf

    static void promise10NoNumberIsBad() {
        Bench.eachRefused(BAD, "isOf", (x, a) -> x.isOf(a[0], a[1]), new int[] {6, 0}, new int[] {-1, 0},
                new int[] {24, 0}, new int[] {LEAST, 0}, new int[] {MOST, 0});
    }

    static void promise10NoKindIsBad() {
        Bench.eachRefused(BAD, "isOf", (x, a) -> x.isOf(a[0], a[1]), new int[] {0, -1}, new int[] {0, 5},
                new int[] {0, LEAST}, new int[] {0, MOST});
    }

    static void promise10ADroppedOneIsOfItsKind() {
        Bench.due("isOf(4, 4)", Bench.furnished().isOf(4, 4), 1);
        Bench.due("isOf(4, 2)", Bench.furnished().isOf(4, 2), 1);
        Bench.due("isOf(4, 0)", Bench.furnished().isOf(4, 0), 1);
        Bench.due("isOf(4, 1)", Bench.furnished().isOf(4, 1), 0);
    }

    // ---- promise 11: end

    private static void endIsBad(int[]... rows) {
        Bench.eachRefused(BAD, "end", (x, a) -> x.end(a[0], a[1], a[2]), rows);
    }

    static void promise11NoNumberIsBad() {
        endIsBad(new int[] {6, 0, 0}, new int[] {-1, 0, 0}, new int[] {24, 1, 1}, new int[] {LEAST, 0, 0},
                new int[] {MOST, 0, 0});
    }

    static void promise11EndBelow0OrAbove1IsBad() {
        endIsBad(new int[] {0, -1, 0}, new int[] {0, 2, 0}, new int[] {0, LEAST, 0}, new int[] {0, MOST, 0});
    }

    static void promise11PartBelow0OrAbove1IsBad() {
        endIsBad(new int[] {0, 0, -1}, new int[] {0, 0, 2}, new int[] {0, 0, LEAST}, new int[] {0, 0, MOST});
    }

    static void promise11GreatestAndLeastFractions() {
        OldReckoner x = Bench.with(new int[] {4, 1, 1000, 1}, new int[] {4, 1, 1, 1000}, new int[] {4, 1, 997, 991});
        x.doubt(0, 0, 500);
        x.doubt(1, 0, 500);
        x.doubt(2, 0, 499);
        Bench.endIs(x, 0, 0, 250, 1);
        Bench.endIs(x, 0, 1, 3000, 1);
        Bench.endIs(x, 1, 0, 1, 4000);
        Bench.endIs(x, 1, 1, 3, 1000);
        Bench.endIs(x, 2, 0, 997 * 501, 991 * 2000);
        Bench.endIs(x, 2, 1, 997 * 1499, 991 * 500);
    }

    static void promise11OfADroppedOne() {
        Bench.endIs(Bench.furnished(), 4, 0, 1, 28);
        Bench.endIs(Bench.furnished(), 4, 1, 3, 7);
    }

    // ---- promise 12: counts

    private static void countsIsBad(int[]... rows) {
        Bench.eachRefused(BAD, "counts", (x, a) -> x.counts(a[0], a[1], a[2]), rows);
    }

    static void promise12NoNumberIsBad() {
        countsIsBad(new int[] {6, 0, 0}, new int[] {-1, 0, 0}, new int[] {24, 0, 0}, new int[] {LEAST, 0, 0},
                new int[] {MOST, 0, 0});
    }

    static void promise12NoPlaceIsBad() {
        countsIsBad(new int[] {0, 8, 0}, new int[] {0, -1, 0}, new int[] {0, LEAST, 0}, new int[] {0, MOST, 0});
    }

    static void promise12NoDayIsBad() {
        countsIsBad(new int[] {0, 0, 10000}, new int[] {0, 0, -1}, new int[] {0, 0, LEAST}, new int[] {0, 0, MOST});
    }

    static void promise12BadAlsoOfOneThatIsDropped() {
        countsIsBad(new int[] {4, 8, 0}, new int[] {4, 0, 10000});
        Bench.due("counts(4, 0, 0)", Bench.furnished().counts(4, 0, 0), 0);
    }

    static void promise12LeastAndGreatestPlaceAndDay() {
        OldReckoner x = Bench.with(new int[] {0, 1, 1, 1});
        Bench.due("counts(0, 0, 0)", x.counts(0, 0, 0), 1);
        Bench.due("counts(0, 7, 9999)", x.counts(0, 7, 9999), 1);
    }

    static void promise12FollowsAPlaceThatIsMoved() {
        OldReckoner x = Bench.with(new int[] {0, 1, 1, 1});
        x.holds(0, 6, 0, 9999);
        Bench.due("counts(0, 7, 0)", x.counts(0, 7, 0), 0);
        x.lies(7, 6);
        Bench.due("counts(0, 7, 0)", x.counts(0, 7, 0), 1);
    }
}
