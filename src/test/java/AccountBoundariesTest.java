/** Promises 20 to 30, customs and accounts: each sentence that names a boundary case, by itself. */
public final class AccountBoundariesTest {
    private static final long BAD = OldReckoner.BAD;
    private static final long FULL = OldReckoner.FULL;
    private static final long LARGE = OldReckoner.LARGE;
    private static final long NONE = OldReckoner.NONE;
    private static final long NOTHING = OldReckoner.NOTHING;
    private static final long INDEX = OldReckoner.INDEX;
    private static final long SIZE = OldReckoner.SIZE;
    private static final int LEAST = Bench.LEAST;
    private static final int MOST = Bench.MOST;
    private static final long GREATEST_PARTED = 1000000000000000L;
    private static final long GREATEST_PARTS = 999999999999999999L;
    private static final int[] ONES = {1, 1, 1, 1, 1, 1, 1, 1, 1};

    private AccountBoundariesTest() {
    }

    public static void main(String[] args) {
        Bench.runAll(AccountBoundariesTest.class);
    }

    private static OldReckoner withCustom(int... steps) {
        OldReckoner x = new OldReckoner();
        x.custom(0, steps.length);
        for (int i = 0; i < steps.length; i++) {
            x.step(0, i, steps[i]);
        }
        return x;
    }

    private static void stepsAre(OldReckoner x, int custom, int... steps) {
        for (int i = 0; i < steps.length; i++) {
            Bench.due("step(" + custom + ", " + i + ", ..)", x.step(custom, i, steps[i]), steps[i]);
        }
        Bench.due("step(" + custom + ", " + steps.length + ", 2)", x.step(custom, steps.length, 2), INDEX);
    }

    // ---- promise 20: custom

    static void promise20LeastAndGreatestNumberOfSteps() {
        OldReckoner x = new OldReckoner();
        Bench.due("custom(0, 0)", x.custom(0, 0), 0);
        Bench.due("custom(3, 5)", x.custom(3, 5), 5);
        stepsAre(x, 0);
        stepsAre(x, 3, 2, 2, 2, 2, 2);
    }

    static void promise20NoCustomIsBad() {
        Bench.eachRefused(BAD, "custom", (x, a) -> x.custom(a[0], a[1]), new int[] {-1, 1}, new int[] {4, 1},
                new int[] {LEAST, 1}, new int[] {MOST, 1});
    }

    static void promise20MoreThan5StepsAreBad() {
        Bench.eachRefused(BAD, "custom", (x, a) -> x.custom(a[0], a[1]), new int[] {0, 6}, new int[] {3, 6},
                new int[] {0, MOST});
    }

    static void promise20StepsBelow0AreSize() {
        Bench.eachRefused(SIZE, "custom", (x, a) -> x.custom(a[0], a[1]), new int[] {0, -1}, new int[] {3, -1},
                new int[] {0, LEAST});
    }

    static void promise20BadStandsAheadOfSize() {
        Bench.eachRefused(BAD, "custom", (x, a) -> x.custom(a[0], a[1]), new int[] {4, -1}, new int[] {-1, -1},
                new int[] {-1, LEAST});
    }

    static void promise20AnewAllAre2() {
        OldReckoner x = withCustom(9, 9, 9, 9, 9);
        Bench.due("custom(0, 3)", x.custom(0, 3), 3);
        stepsAre(x, 0, 2, 2, 2);
        Bench.due("custom(0, 5)", x.custom(0, 5), 5);
        stepsAre(x, 0, 2, 2, 2, 2, 2);
        Bench.due("count(2)", x.count(2), 1);
    }

    static void promise20AnewWithNoneItIsStillThere() {
        OldReckoner x = withCustom(9, 9);
        Bench.due("custom(0, 0)", x.custom(0, 0), 0);
        Bench.due("count(2)", x.count(2), 1);
        Bench.due("part(0, 7, 0)", x.part(0, 7, 0), 7);
    }

    // ---- promise 21: step

    static void promise21LeastAndGreatestStep() {
        OldReckoner x = withCustom(7);
        Bench.due("step(0, 0, 2)", x.step(0, 0, 2), 7);
        Bench.due("step(0, 0, 1000)", x.step(0, 0, 1000), 2);
        Bench.due("step(0, 0, 7)", x.step(0, 0, 7), 1000);
    }

    static void promise21FirstAndLastPlace() {
        OldReckoner x = withCustom(3, 4, 5, 6, 7);
        Bench.due("step(0, 0, 8)", x.step(0, 0, 8), 3);
        Bench.due("step(0, 4, 9)", x.step(0, 4, 9), 7);
        stepsAre(x, 0, 8, 4, 5, 6, 9);
    }

    private static void stepAnswers(long want, int[]... rows) {
        Bench.eachRefused(want, "step", (x, a) -> x.step(a[0], a[1], a[2]), rows);
    }

    static void promise21NoCustomIsBad() {
        stepAnswers(BAD, new int[] {4, 0, 2}, new int[] {-1, 0, 2}, new int[] {LEAST, 0, 2}, new int[] {MOST, 0, 2});
    }

    static void promise21MissingIsNothing() {
        stepAnswers(NOTHING, new int[] {3, 0, 2});
    }

    static void promise21NoSuchPlaceIsIndex() {
        stepAnswers(INDEX, new int[] {0, 3, 2}, new int[] {0, -1, 2}, new int[] {2, 5, 2}, new int[] {0, LEAST, 2},
                new int[] {0, MOST, 2});
    }

    static void promise21OfNoStepsEachPlaceIsIndex() {
        stepAnswers(INDEX, new int[] {1, 0, 2}, new int[] {1, -1, 2});
    }

    static void promise21StepBelow2OrAbove1000IsBad() {
        stepAnswers(BAD, new int[] {0, 0, 1}, new int[] {0, 0, 0}, new int[] {0, 0, -2}, new int[] {0, 0, 1001},
                new int[] {0, 2, LEAST}, new int[] {0, 2, MOST});
    }

    static void promise21NoCustomStandsAheadOfAll() {
        stepAnswers(BAD, new int[] {4, -1, 1}, new int[] {-1, 9, 1001});
    }

    static void promise21NothingStandsAheadOfIndexAndTheStepsBad() {
        stepAnswers(NOTHING, new int[] {3, -1, 2}, new int[] {3, 5, 2}, new int[] {3, 0, 1}, new int[] {3, -1, 1});
    }

    static void promise21IndexStandsAheadOfTheStepsBad() {
        stepAnswers(INDEX, new int[] {0, 3, 1}, new int[] {0, -1, 1001}, new int[] {1, 0, 1});
    }

    // ---- promise 22: copy

    /** Custom 0 has three steps, 1 four, 2 none; 3 is missing. */
    private static OldReckoner toCopy() {
        OldReckoner x = withCustom(10, 11, 12);
        x.custom(1, 4);
        for (int i = 0; i < 4; i++) {
            x.step(1, i, 20 + i);
        }
        x.custom(2, 0);
        return x;
    }

    private static void copyAnswers(long want, int[]... rows) {
        for (int[] a : rows) {
            Bench.refused(want, "copy(" + a[0] + ", " + a[1] + ", " + a[2] + ")", AccountBoundariesTest::toCopy,
                    x -> x.copy(a[0], a[1], a[2]));
        }
    }

    static void promise22FromTheFirstOn() {
        OldReckoner x = toCopy();
        Bench.due("copy(0, 1, 2)", x.copy(0, 1, 2), 2);
        stepsAre(x, 1, 10, 11, 22, 23);
        stepsAre(x, 0, 10, 11, 12);
    }

    static void promise22AllOfTheLesserOne() {
        OldReckoner x = toCopy();
        Bench.due("copy(0, 1, 3)", x.copy(0, 1, 3), 3);
        stepsAre(x, 1, 10, 11, 12, 23);
        OldReckoner y = toCopy();
        Bench.due("copy(1, 0, 3)", y.copy(1, 0, 3), 3);
        stepsAre(y, 0, 20, 21, 22);
    }

    static void promise22NoneAtAll() {
        OldReckoner x = toCopy();
        Bench.due("copy(0, 1, 0)", x.copy(0, 1, 0), 0);
        Bench.due("copy(2, 1, 0)", x.copy(2, 1, 0), 0);
        Bench.due("copy(1, 2, 0)", x.copy(1, 2, 0), 0);
        stepsAre(x, 1, 20, 21, 22, 23);
    }

    static void promise22NoCustomIsBad() {
        copyAnswers(BAD, new int[] {4, 0, 1}, new int[] {-1, 0, 1}, new int[] {0, 4, 1}, new int[] {0, -1, 1},
                new int[] {LEAST, 0, 1}, new int[] {0, MOST, 1});
    }

    static void promise22FromAMissingOneIsNothing() {
        copyAnswers(NOTHING, new int[] {3, 0, 1}, new int[] {3, 0, 0});
    }

    static void promise22ToAMissingOneIsNothing() {
        copyAnswers(NOTHING, new int[] {0, 3, 1}, new int[] {0, 3, 0}, new int[] {3, 3, 0});
    }

    static void promise22MoreThanTheGiverHasIsIndex() {
        copyAnswers(INDEX, new int[] {0, 1, 4}, new int[] {2, 1, 1}, new int[] {0, 1, MOST});
    }

    static void promise22MoreThanTheTakerHasIsIndex() {
        copyAnswers(INDEX, new int[] {1, 0, 4}, new int[] {1, 2, 1});
    }

    static void promise22FewerThan0IsIndex() {
        copyAnswers(INDEX, new int[] {0, 1, -1}, new int[] {0, 1, LEAST});
    }

    static void promise22BadStandsAheadOfNothing() {
        copyAnswers(BAD, new int[] {4, 3, 1}, new int[] {3, 4, 1}, new int[] {3, -1, 1});
    }

    static void promise22BadStandsAheadOfIndex() {
        copyAnswers(BAD, new int[] {4, 0, -1}, new int[] {0, 4, 9});
    }

    static void promise22NothingStandsAheadOfIndex() {
        copyAnswers(NOTHING, new int[] {3, 0, -1}, new int[] {0, 3, 9}, new int[] {3, 3, 1});
    }

    static void promise22ACopyStandsByItself() {
        OldReckoner x = toCopy();
        x.copy(0, 1, 3);
        x.step(0, 0, 999);
        stepsAre(x, 1, 10, 11, 12, 23);
    }

    static void promise22ToItselfChangesNothing() {
        OldReckoner x = toCopy();
        Bench.due("copy(1, 1, 4)", x.copy(1, 1, 4), 4);
        stepsAre(x, 1, 20, 21, 22, 23);
        Bench.due("copy(1, 1, 5)", x.copy(1, 1, 5), INDEX);
    }

    // ---- promise 23: part

    static void promise23GreatestNumber() {
        OldReckoner x = withCustom(20, 12);
        Bench.due("part(0, 10^15, 0)", x.part(0, GREATEST_PARTED, 0), GREATEST_PARTED / 240);
        Bench.due("part(0, 10^15, 1)", x.part(0, GREATEST_PARTED, 1), 13);
        Bench.due("part(0, 10^15, 2)", x.part(0, GREATEST_PARTED, 2), 4);
    }

    static void promise23LeastNumber() {
        OldReckoner x = withCustom(20, 12);
        Bench.due("part(0, -10^15, 0)", x.part(0, -GREATEST_PARTED, 0), -GREATEST_PARTED / 240);
        Bench.due("part(0, -10^15, 1)", x.part(0, -GREATEST_PARTED, 1), -13);
        Bench.due("part(0, -10^15, 2)", x.part(0, -GREATEST_PARTED, 2), -4);
    }

    static void promise23NumberOfAGreaterSizeIsBad() {
        for (long v : new long[] {GREATEST_PARTED + 1, -GREATEST_PARTED - 1, Long.MAX_VALUE, Long.MIN_VALUE,
            Long.MIN_VALUE + 1}) {
            Bench.refused(BAD, "part(0, " + v + ", 0)", x -> x.part(0, v, 0));
        }
    }

    static void promise23NoCustomIsBad() {
        for (int c : new int[] {4, -1, LEAST, MOST}) {
            Bench.refused(BAD, "part(" + c + ", 1, 0)", x -> x.part(c, 1, 0));
        }
    }

    static void promise23MissingIsNothing() {
        Bench.refused(NOTHING, "part(3, 1, 0)", x -> x.part(3, 1, 0));
    }

    static void promise23AsManyPartsAsStepsAndOne() {
        OldReckoner x = withCustom(2, 2, 2, 2, 2);
        long[] want = {1, 1, 1, 1, 1, 1, INDEX};
        for (int i = 0; i < want.length; i++) {
            Bench.due("part(0, 63, " + i + ")", x.part(0, 63, i), want[i]);
        }
    }

    static void promise23NoSuchPartIsIndex() {
        for (int i : new int[] {-1, 4, LEAST, MOST}) {
            Bench.refused(INDEX, "part(0, 1, " + i + ")", x -> x.part(0, 1, i));
        }
        Bench.refused(INDEX, "part(1, 1, 1)", x -> x.part(1, 1, 1));
        Bench.refused(INDEX, "part(2, 1, 6)", x -> x.part(2, 1, 6));
    }

    static void promise23BadStandsAheadOfNothing() {
        Bench.refused(BAD, "part(3, 10^15 + 1, 0)", x -> x.part(3, GREATEST_PARTED + 1, 0));
        Bench.refused(BAD, "part(3, -10^15 - 1, 0)", x -> x.part(3, -GREATEST_PARTED - 1, 0));
    }

    static void promise23BadStandsAheadOfIndex() {
        Bench.refused(BAD, "part(4, 1, -1)", x -> x.part(4, 1, -1));
        Bench.refused(BAD, "part(0, 10^15 + 1, 4)", x -> x.part(0, GREATEST_PARTED + 1, 4));
    }

    static void promise23NothingStandsAheadOfIndex() {
        Bench.refused(NOTHING, "part(3, 1, -1)", x -> x.part(3, 1, -1));
        Bench.refused(NOTHING, "part(3, 1, 6)", x -> x.part(3, 1, 6));
    }

    static void promise23ByTheGreatestSteps() {
        OldReckoner x = withCustom(1000, 1000, 1000, 1000, 1000);
        long[] want = {1, 0, 0, 0, 0, 0};
        long[] under = {0, 999, 999, 999, 999, 999};
        for (int i = 0; i < 6; i++) {
            Bench.due("part(0, 10^15, " + i + ")", x.part(0, GREATEST_PARTED, i), want[i]);
            Bench.due("part(0, 10^15 - 1, " + i + ")", x.part(0, GREATEST_PARTED - 1, i), under[i]);
        }
    }

    // ---- promise 24: whole

    static void promise24NothingIsNothing() {
        Bench.due("whole(0, 0)", withCustom(20, 12).whole(0, 0), 0);
    }

    static void promise24LeastPartIsTheLastThreeDigits() {
        OldReckoner x = withCustom(20, 12);
        Bench.due("whole(0, 1)", x.whole(0, 1), 1);
        Bench.due("whole(0, 999)", x.whole(0, 999), 999);
        Bench.due("whole(0, 1000)", x.whole(0, 1000), 12);
        Bench.due("whole(0, 999000)", x.whole(0, 999000), 999 * 12);
        Bench.due("whole(0, 1000000)", x.whole(0, 1000000), 240);
    }

    static void promise24PartsMayBeMoreThanTheirStep() {
        Bench.due("whole(0, 999999999)", withCustom(20, 12).whole(0, 999999999), 999 * 240 + 999 * 12 + 999);
    }

    static void promise24PartsBeyondTheCustomsCountForNothing() {
        OldReckoner x = withCustom(20, 12);
        Bench.due("whole(0, 1000000000)", x.whole(0, 1000000000L), 0);
        Bench.due("whole(0, 7001002003)", x.whole(0, 7001002003L), 240 + 24 + 3);
        Bench.due("whole(0, 10^18 - 1)", x.whole(0, GREATEST_PARTS), 999 * 240 + 999 * 12 + 999);
    }

    static void promise24OfNoStepsTheLeastPartAlone() {
        OldReckoner x = withCustom();
        Bench.due("whole(0, 10^18 - 1)", x.whole(0, GREATEST_PARTS), 999);
        Bench.due("whole(0, 1000)", x.whole(0, 1000), 0);
    }

    static void promise24GreatestNumberByTheGreatestSteps() {
        OldReckoner x = withCustom(1000, 1000, 1000, 1000, 1000);
        Bench.due("whole(0, 10^18 - 1)", x.whole(0, GREATEST_PARTS), GREATEST_PARTS);
    }

    static void promise24SixPartsOfFiveSteps() {
        Bench.due("whole(0, 1001001001001001)", withCustom(2, 2, 2, 2, 2).whole(0, 1001001001001001L), 63);
    }

    static void promise24NoCustomIsBad() {
        for (int c : new int[] {4, -1, LEAST, MOST}) {
            Bench.refused(BAD, "whole(" + c + ", 1)", x -> x.whole(c, 1));
        }
    }

    static void promise24NumberBelow0IsBad() {
        Bench.refused(BAD, "whole(0, -1)", x -> x.whole(0, -1));
        Bench.refused(BAD, "whole(0, least)", x -> x.whole(0, Long.MIN_VALUE));
    }

    static void promise24NumberOfTenToTheEighteenthOrMoreIsBad() {
        Bench.refused(BAD, "whole(0, 10^18)", x -> x.whole(0, GREATEST_PARTS + 1));
        Bench.refused(BAD, "whole(0, most)", x -> x.whole(0, Long.MAX_VALUE));
    }

    static void promise24MissingIsNothing() {
        Bench.refused(NOTHING, "whole(3, 0)", x -> x.whole(3, 0));
        Bench.refused(NOTHING, "whole(3, 10^18 - 1)", x -> x.whole(3, GREATEST_PARTS));
    }

    static void promise24BadStandsAheadOfNothing() {
        Bench.refused(BAD, "whole(3, -1)", x -> x.whole(3, -1));
        Bench.refused(BAD, "whole(3, 10^18)", x -> x.whole(3, GREATEST_PARTS + 1));
    }

    // ---- promise 25: line

    private static OldReckoner fullOfLines() {
        OldReckoner x = new OldReckoner();
        for (int i = 0; i < 20; i++) {
            x.line(i + 1, i % 10, i % 8, i);
        }
        return x;
    }

    static void promise25NumbersFrom0To19() {
        OldReckoner x = new OldReckoner();
        for (int i = 0; i < 20; i++) {
            Bench.due("line " + i, x.line(0, 0, 0, 0), i);
        }
        Bench.due("count(3)", x.count(3), 20);
    }

    static void promise25LeastAndGreatestArguments() {
        OldReckoner x = new OldReckoner();
        Bench.due("line(-1000000, 0, 0, 0)", x.line(-1000000, 0, 0, 0), 0);
        Bench.due("line(1000000, 9, 7, 9999)", x.line(1000000, 9, 7, 9999), 1);
        Bench.due("amend(0, 0)", x.amend(0, 0), -1000000);
        Bench.due("amend(1, 0)", x.amend(1, 0), 1000000);
    }

    private static void lineIsBad(int[]... rows) {
        Bench.eachRefused(BAD, "line", (x, a) -> x.line(a[0], a[1], a[2], a[3]), rows);
    }

    static void promise25AmountOfASizeAboveAMillionIsBad() {
        lineIsBad(new int[] {1000001, 0, 0, 0}, new int[] {-1000001, 0, 0, 0}, new int[] {LEAST, 0, 0, 0},
                new int[] {MOST, 0, 0, 0});
    }

    static void promise25NoMeasureIsBad() {
        lineIsBad(new int[] {1, 10, 0, 0}, new int[] {1, -1, 0, 0}, new int[] {1, LEAST, 0, 0},
                new int[] {1, MOST, 0, 0});
    }

    static void promise25NoPlaceIsBad() {
        lineIsBad(new int[] {1, 0, 8, 0}, new int[] {1, 0, -1, 0}, new int[] {1, 0, LEAST, 0},
                new int[] {1, 0, MOST, 0});
    }

    static void promise25NoDayIsBad() {
        lineIsBad(new int[] {1, 0, 0, 10000}, new int[] {1, 0, 0, -1}, new int[] {1, 0, 0, LEAST},
                new int[] {1, 0, 0, MOST});
    }

    static void promise25The21stIsFull() {
        Bench.refused(FULL, "line(0, 0, 0, 0)", AccountBoundariesTest::fullOfLines, x -> x.line(0, 0, 0, 0));
    }

    static void promise25BadStandsAheadOfFull() {
        int[][] rows = {{1000001, 0, 0, 0}, {0, 10, 0, 0}, {0, 0, 8, 0}, {0, 0, 0, 10000}};
        for (int[] a : rows) {
            Bench.refused(BAD, "line, bad and full", AccountBoundariesTest::fullOfLines,
                    x -> x.line(a[0], a[1], a[2], a[3]));
        }
    }

    static void promise25FromTheFirstAgainAfterClear() {
        OldReckoner x = fullOfLines();
        x.clear();
        for (int i = 0; i < 20; i++) {
            Bench.due("line " + i, x.line(1, 0, 0, 0), i);
        }
        Bench.due("line 20", x.line(1, 0, 0, 0), FULL);
        Bench.totalIs(x, 0, 0, 20, 1);
    }

    // ---- promise 26: amend

    static void promise26LeastAndGreatestAmount() {
        OldReckoner x = fullOfLines();
        Bench.due("amend(0, 1000000)", x.amend(0, 1000000), 1);
        Bench.due("amend(0, -1000000)", x.amend(0, -1000000), 1000000);
        Bench.due("amend(0, 0)", x.amend(0, 0), -1000000);
        Bench.due("amend(0, 1)", x.amend(0, 1), 0);
    }

    static void promise26LastLine() {
        OldReckoner x = fullOfLines();
        Bench.due("amend(19, 5)", x.amend(19, 5), 20);
        Bench.due("amend(19, 5)", x.amend(19, 5), 5);
        Bench.due("amend(18, 5)", x.amend(18, 5), 19);
    }

    private static void amendIsBad(int[]... rows) {
        Bench.eachRefused(BAD, "amend", (x, a) -> x.amend(a[0], a[1]), rows);
    }

    static void promise26NoLineIsBad() {
        amendIsBad(new int[] {3, 1}, new int[] {-1, 1}, new int[] {20, 1}, new int[] {LEAST, 1}, new int[] {MOST, 1});
        Bench.refused(BAD, "amend(20, 1)", AccountBoundariesTest::fullOfLines, x -> x.amend(20, 1));
    }

    static void promise26AmountOfASizeAboveAMillionIsBad() {
        amendIsBad(new int[] {0, 1000001}, new int[] {0, -1000001}, new int[] {0, LEAST}, new int[] {0, MOST});
    }

    static void promise26AfterClearIsBad() {
        OldReckoner x = fullOfLines();
        x.clear();
        Bench.due("amend(0, 1)", x.amend(0, 1), BAD);
        x.line(1, 0, 0, 0);
        Bench.due("amend(0, 2)", x.amend(0, 2), 1);
        Bench.due("amend(1, 2)", x.amend(1, 2), BAD);
    }

    static void promise26TotalFollows() {
        OldReckoner x = new OldReckoner();
        x.line(1, 0, 0, 0);
        x.line(2, 0, 0, 0);
        x.amend(1, -7);
        Bench.totalIs(x, 0, 0, -6, 1);
    }

    // ---- promise 27: clear

    static void promise27OfNoLinesIs0() {
        Bench.due("clear()", new OldReckoner().clear(), 0);
    }

    static void promise27OfAllLines() {
        OldReckoner x = fullOfLines();
        Bench.due("clear()", x.clear(), 20);
        Bench.due("count(3)", x.count(3), 0);
        Bench.due("clear()", x.clear(), 0);
    }

    static void promise27TotalIsNothingAgain() {
        OldReckoner x = fullOfLines();
        Bench.totalAnswers(x, 0, NONE);
        x.clear();
        Bench.totalIs(x, 0, 0, 0, 1);
        Bench.totalIs(x, 0, 1, 0, 1);
    }

    static void promise27TakesNothingElse() {
        OldReckoner x = Bench.furnished();
        Bench.due("clear()", x.clear(), 3);
        Bench.due("count(0)", x.count(0), 6);
        Bench.due("count(1)", x.count(1), 1);
        Bench.due("count(2)", x.count(2), 3);
        Bench.due("within(5, 1)", x.within(5, 1), 1);
    }

    // ---- promise 28: total

    private static void totalIsBad(int[]... rows) {
        Bench.eachRefused(BAD, "total", (x, a) -> x.total(a[0], a[1], a[2]), rows);
    }

    static void promise28NoMeasureIsBad() {
        totalIsBad(new int[] {10, 0, 0}, new int[] {-1, 0, 0}, new int[] {LEAST, 0, 0}, new int[] {MOST, 0, 0});
    }

    static void promise28EndBelow0OrAbove1IsBad() {
        totalIsBad(new int[] {0, -1, 0}, new int[] {0, 2, 0}, new int[] {0, LEAST, 0}, new int[] {0, MOST, 0});
    }

    static void promise28PartBelow0OrAbove1IsBad() {
        totalIsBad(new int[] {0, 0, -1}, new int[] {0, 0, 2}, new int[] {0, 0, LEAST}, new int[] {0, 0, MOST});
    }

    static void promise28BadOfAnEmptyAccountToo() {
        Bench.refused(BAD, "total(10, 0, 0)", OldReckoner::new, x -> x.total(10, 0, 0));
        Bench.refused(BAD, "total(0, 2, 0)", OldReckoner::new, x -> x.total(0, 2, 0));
        Bench.refused(BAD, "total(0, 0, 2)", OldReckoner::new, x -> x.total(0, 0, 2));
    }

    static void promise28BadStandsAheadOfNone() {
        totalIsBad(new int[] {9, 2, 0}, new int[] {9, 0, 2}, new int[] {9, -1, 0}, new int[] {9, 0, -1});
    }

    static void promise28SomeLineWithoutAWayIsNone() {
        Bench.refused(NONE, "total(9, 0, 0)", x -> x.total(9, 0, 0));
        OldReckoner x = new OldReckoner();
        x.line(1, 0, 0, 0);
        x.line(1, 5, 0, 0);
        Bench.totalAnswers(x, 0, NONE);
        Bench.totalAnswers(x, 5, NONE);
    }

    static void promise28OfAmount0WithoutAWayIsNone() {
        OldReckoner x = new OldReckoner();
        x.line(0, 5, 0, 0);
        Bench.totalAnswers(x, 0, NONE);
        Bench.totalIs(x, 5, 0, 0, 1);
    }

    /** Of a chain of five thousandfold likenesses the whole way is 10^15. */
    private static OldReckoner thousandfold() {
        return Bench.chain(new int[] {1000, 1000, 1000, 1000, 1000}, ONES);
    }

    static void promise28OfAmount0ItsWayBeingLargeIsLarge() {
        OldReckoner x = thousandfold();
        x.line(0, 0, 0, 0);
        Bench.totalAnswers(x, 5, LARGE);
        Bench.totalIs(x, 4, 0, 0, 1);
    }

    static void promise28NoneStandsAheadOfLarge() {
        OldReckoner x = thousandfold();
        x.line(1, 0, 0, 0);
        x.line(0, 9, 0, 0);
        Bench.totalAnswers(x, 5, NONE);
        OldReckoner sum = thousandfold();
        sum.line(1000000, 0, 0, 0);
        sum.line(1, 9, 0, 0);
        Bench.totalAnswers(sum, 3, NONE);
    }

    static void promise28BadStandsAheadOfLarge() {
        OldReckoner x = thousandfold();
        x.line(1, 0, 0, 0);
        Bench.due("total(5, 2, 0)", x.total(5, 2, 0), BAD);
        Bench.due("total(5, 0, 2)", x.total(5, 0, 2), BAD);
    }

    /** A HEARSAY of 1000: LOW 500, HIGH 2000 of it; then a thousandfold, twice. */
    private static OldReckoner wide(int amount) {
        OldReckoner x = Bench.with(new int[] {4, 1, 1000, 1}, new int[] {0, 12, 1000, 1}, new int[] {0, 23, 1000, 1});
        x.line(amount, 0, 0, 0);
        return x;
    }

    static void promise28HighAloneLargeIsLargeWhicheverIsAsked() {
        Bench.totalAnswers(wide(500000), 3, LARGE);
        Bench.totalIs(wide(499999), 3, 0, 249999500000000L, 1);
        Bench.totalIs(wide(499999), 3, 1, 999998000000000L, 1);
    }

    static void promise28LowAloneLargeIsLargeWhicheverIsAsked() {
        Bench.totalAnswers(wide(-500000), 3, LARGE);
        Bench.totalIs(wide(-499999), 3, 0, -999998000000000L, 1);
        Bench.totalIs(wide(-499999), 3, 1, -249999500000000L, 1);
    }

    /** The way's LOW is 1 by 1.8 * 10^15, its HIGH 1 by 6 * 10^14; the amount would bring both to 1. */
    static void promise28AWaysLowAloneLargeIsLarge() {
        OldReckoner x = Bench.with(new int[] {2, 1, 1, 1}, new int[] {0, 12, 1, 1000}, new int[] {0, 23, 1, 1000},
                new int[] {0, 34, 1, 1000}, new int[] {0, 45, 1, 1000}, new int[] {0, 56, 1, 900});
        x.doubt(0, 1, 500);
        x.line(900000, 0, 0, 0);
        Bench.totalAnswers(x, 6, LARGE);
        Bench.totalIs(x, 5, 1, 27, 20000000);
    }

    static void promise28GreatestMeasure() {
        OldReckoner x = new OldReckoner();
        x.line(7, 9, 7, 9999);
        Bench.totalIs(x, 9, 0, 7, 1);
        Bench.totalIs(x, 9, 1, 7, 1);
    }

    static void promise28OfAllTwentyLinesOfTheGreatestAmount() {
        OldReckoner x = new OldReckoner();
        for (int i = 0; i < 20; i++) {
            x.line(-1000000, 0, 0, 0);
        }
        Bench.totalIs(x, 0, 0, -20000000, 1);
        Bench.totalIs(x, 0, 1, -20000000, 1);
    }

    // ---- promise 29: slip

    static void promise29NoMeasureIsBad() {
        Bench.eachRefused(BAD, "slip", (x, a) -> x.slip(a[0], a[1]), new int[] {10, 0}, new int[] {-1, 0},
                new int[] {LEAST, 0}, new int[] {MOST, 0});
    }

    static void promise29ToldOfASizeAboveTenToTheNinthIsBad() {
        Bench.eachRefused(BAD, "slip", (x, a) -> x.slip(a[0], a[1]), new int[] {0, 1000000001},
                new int[] {0, -1000000001}, new int[] {0, LEAST}, new int[] {0, MOST});
    }

    static void promise29GreatestAndLeastToldTotal() {
        OldReckoner x = Bench.with(new int[] {0, 1, 1000, 1});
        x.line(1000000, 0, 0, 0);
        Bench.due("slip(1, 10^9)", x.slip(1, 1000000000), 0);
        Bench.due("slip(1, -10^9)", x.slip(1, -1000000000), NONE);
        x.amend(0, -1000000);
        Bench.due("slip(1, -10^9)", x.slip(1, -1000000000), 0);
        Bench.due("slip(1, 10^9)", x.slip(1, 1000000000), NONE);
    }

    static void promise29BadStandsAheadOfNone() {
        Bench.eachRefused(BAD, "slip", (x, a) -> x.slip(a[0], a[1]), new int[] {9, 1000000001},
                new int[] {9, -1000000001});
        Bench.refused(BAD, "slip(10, 5)", OldReckoner::new, x -> x.slip(10, 5));
    }

    static void promise29OfAnEmptyAccount() {
        Bench.due("slip(0, 0)", new OldReckoner().slip(0, 0), 0);
        Bench.due("slip(0, 1)", new OldReckoner().slip(0, 1), NONE);
        Bench.due("slip(0, -1)", new OldReckoner().slip(0, -1), NONE);
    }

    static void promise29SomeLineWithoutAWayIsNone() {
        OldReckoner x = new OldReckoner();
        x.line(5, 0, 0, 0);
        x.line(0, 9, 0, 0);
        Bench.due("slip(0, 5)", x.slip(0, 5), NONE);
        Bench.due("slip(9, 0)", x.slip(9, 0), NONE);
    }

    /** Out, the line without a way would make it RIGHT. */
    static void promise29ALineWithoutAWayIsNotTakenOut() {
        OldReckoner x = new OldReckoner();
        x.line(5, 0, 0, 0);
        x.line(7, 9, 0, 0);
        Bench.due("slip(0, 5)", x.slip(0, 5), NONE);
    }

    static void promise29NoSuchSlipIsNone() {
        OldReckoner x = new OldReckoner();
        x.line(5, 0, 0, 0);
        Bench.due("slip(0, 6)", x.slip(0, 6), NONE);
        Bench.due("slip(0, -5)", x.slip(0, -5), NONE);
        Bench.due("slip(0, 10)", x.slip(0, 10), 1);
    }

    static void promise29NoneStandsAheadOfLarge() {
        OldReckoner x = thousandfold();
        x.line(1, 0, 0, 0);
        x.line(1, 9, 0, 0);
        Bench.due("slip(5, 0)", x.slip(5, 0), NONE);
    }

    static void promise29AWayLargeIsLarge() {
        OldReckoner x = thousandfold();
        x.line(0, 0, 0, 0);
        Bench.due("slip(5, 0)", x.slip(5, 0), LARGE);
        Bench.due("slip(4, 0)", x.slip(4, 0), 0);
    }

    static void promise29BadStandsAheadOfLarge() {
        OldReckoner x = thousandfold();
        x.line(0, 0, 0, 0);
        Bench.due("slip(5, 10^9 + 1)", x.slip(5, 1000000001), BAD);
    }

    static void promise29TotalsHighAloneLargeIsLarge() {
        Bench.due("slip(3, 0), out making it RIGHT", wide(500000).slip(3, 0), LARGE);
        Bench.due("slip(3, 0), twice being LARGE", wide(250000).slip(3, 0), LARGE);
        Bench.due("slip(3, 0), twice just under", wide(249999).slip(3, 0), 2);
    }

    static void promise29FirstAndLastLine() {
        OldReckoner x = new OldReckoner();
        for (int i = 0; i < 20; i++) {
            x.line(1 << i, 0, 0, 0);
        }
        int all = (1 << 20) - 1;
        Bench.due("slip(0, twice line 0)", x.slip(0, all + 1), 1);
        Bench.due("slip(0, line 0 out)", x.slip(0, all - 1), 2);
        Bench.due("slip(0, twice line 19)", x.slip(0, all + (1 << 19)), 191);
        Bench.due("slip(0, line 19 out)", x.slip(0, all - (1 << 19)), 192);
        x.amend(19, 60);
        int other = (1 << 19) - 1 + 60;
        Bench.due("slip(0, 12 for 10 of line 19)", x.slip(0, other + 12), 193);
        Bench.due("slip(0, 10 for 12 of line 19)", x.slip(0, other - 10), 194);
    }

    static void promise29ChangesNoLine() {
        OldReckoner x = new OldReckoner();
        x.line(50, 0, 0, 0);
        x.line(48, 0, 0, 0);
        x.slip(0, 148);
        x.slip(0, 48);
        x.slip(0, 108);
        x.slip(0, 90);
        Bench.totalIs(x, 0, 0, 98, 1);
        Bench.due("slip(0, 98)", x.slip(0, 98), 0);
    }

    // ---- promise 30: count

    static void promise30WhatBelow0OrAbove4IsBad() {
        Bench.eachRefused(BAD, "count", (x, a) -> x.count(a[0]), new int[] {-1}, new int[] {5}, new int[] {LEAST},
                new int[] {MOST});
    }

    static void promise30EachOfNone() {
        for (int what = 0; what <= 4; what++) {
            Bench.due("count(" + what + ")", new OldReckoner().count(what), 0);
        }
    }

    static void promise30EachOfTheMost() {
        OldReckoner x = new OldReckoner();
        for (int n = 0; n < 24; n++) {
            x.likeness(2, n % 5 * 22 + 1, 1, 1);
            x.drop(n, 1);
        }
        for (int c = 0; c < 4; c++) {
            x.custom(c, c);
        }
        for (int i = 0; i < 20; i++) {
            x.line(0, 0, 0, 0);
        }
        long[] want = {24, 24, 4, 20, 10};
        for (int what = 0; what <= 4; what++) {
            Bench.due("count(" + what + ")", x.count(what), want[what]);
        }
    }

    static void promise30LikenessesAreCountedDroppedOrNot() {
        Bench.due("count(0)", Bench.furnished().count(0), 6);
    }

    static void promise30DroppedOnesFollowDropAndForget() {
        OldReckoner x = Bench.with(new int[] {2, 1, 1, 1}, new int[] {4, 1, 1, 1});
        x.drop(0, 1);
        x.drop(1, 1);
        Bench.due("count(1)", x.count(1), 2);
        x.drop(0, 0);
        Bench.due("count(1)", x.count(1), 1);
        x.forget();
        Bench.due("count(1)", x.count(1), 0);
    }

    static void promise30CustomsOfNoStepsAreCounted() {
        OldReckoner x = withCustom();
        Bench.due("count(2)", x.count(2), 1);
    }

    static void promise30MeasureInALikenessWithItselfIsOne() {
        Bench.due("count(4)", Bench.with(new int[] {0, 0, 1, 1}).count(4), 1);
        Bench.due("count(4)", Bench.with(new int[] {0, 99, 1, 1}).count(4), 1);
    }

    static void promise30MeasureInSeveralLikenessesIsOne() {
        Bench.due("count(4)", Bench.with(new int[] {0, 9, 1, 1}, new int[] {0, 90, 1, 1}).count(4), 2);
    }

    static void promise30MeasuresOfDroppedOnesAreCounted() {
        OldReckoner x = Bench.with(new int[] {2, 34, 1, 1});
        x.drop(0, 1);
        Bench.due("count(4)", x.count(4), 2);
        x.forget();
        Bench.due("count(4)", x.count(4), 0);
    }

    static void promise30MeasuresOfLinesAreNotCounted() {
        OldReckoner x = new OldReckoner();
        x.line(1, 5, 0, 0);
        Bench.due("count(4)", x.count(4), 0);
    }
}
