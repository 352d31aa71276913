/** The edges of what is told, and what all refusals have in common: promises 36 to 42, each by itself. */
final class ToldEdgesTests extends Edges {
    private static final int COUNTS = 13, FINDINGS = 5;

    public static void main(String[] args) {
        run(ToldEdgesTests.class);
    }

    // ---- ahead of the promises

    @Says(in = 0, words = "BAD = -1, FULL = -2, FINDING = -3, STATE = -4, SPENT = -6, NONE = -9")
    static void constantsAreThose(Probe x) {
        x.holds("BAD is -1", PairStairs.BAD == -1);
        x.holds("FULL is -2", PairStairs.FULL == -2);
        x.holds("FINDING is -3", PairStairs.FINDING == -3);
        x.holds("STATE is -4", PairStairs.STATE == -4);
        x.holds("SPENT is -6", PairStairs.SPENT == -6);
        x.holds("NONE is -9", PairStairs.NONE == -9);
    }

    @Says(in = 0, words = "An object is used for at most 512 calls after it has been made")
    static void theLastOfFiveHundredAndTwelveCallsIsAnswered(Probe x) {
        x.due(1, "row", 0, 1);
        for (int k = 0; k < 510; k++) {
            x.due(1, "lay", 0, 0, k);
        }
        x.due(508, "asked");
    }

    @Says(in = 0, words = "Refused is, the first of these that fits, in this order: BAD -1 (a number that is none, or not as told), FULL -2, STATE -4 (not now), SPENT -6 (more than told), FINDING -3 (finding() tells which), unless a call says so otherwise")
    static void badIsTheFirstOfAll(Probe x) {
        x.refused(BAD, "keep", 3);
        x.refused(BAD, "send", 3);
        x.refused(BAD, "lots", 0, 1);
        x.refused(BAD, "row", 6, -1);
        x.refused(BAD, "text", 4, -1);
        x.refused(BAD, "lay", 6, -1, 0);
        x.refused(BAD, "at", 6, -1);
        x.refused(BAD, "put", 4, -1, 0);
        x.refused(BAD, "copy", 6, 0, 0, 0, -1);
        x.refused(BAD, "on", 3);
        x.refused(BAD, "tower", 4);
        x.refused(BAD, "pounds", 0, 0);
        x.refused(BAD, "kinds", 0, 0);
        x.refused(BAD, "next", 0, 0);
    }

    @Says(in = 0, words = "NONE -9")
    static void noneIsNotRefusedAndTellsNothing(Probe x) {
        x.build("x0g99l99n99");
        x.told(1, 104, "one", 1, 2);
        x.none("fault", 0);
        x.none("waits", 1);
        x.none("worth");
        x.none("loaves", 0, 1);
        x.none("up", 1);
        x.none("up", 7);
        x.fill(0, 1, 99);
        x.none("next", 0, 0);
    }

    @Says(in = 0, words = "What is refused changes nothing but finding(), findings()")
    static void refusedDeedsLeaveTheWholeWayBack(Probe x) {
        x.build("x1o4g10g14g10t30t33n25");
        x.due(0, "go", 0, 1, 1, 0);
        x.due(1, "loaf");
        x.due(2, "keep", 1);
        x.due(1, "go", 3, 4, 0, 0);
        x.refused(BAD, "go", 0, 0, 0, 0);
        x.refused(STATE, "go", 0, 2, 0, 0);
        x.refused(SPENT, "go", 2, 5, 0, 0);
        x.refused(BAD, "undo", 4);
        x.refused(BAD, "keep", 3);
        x.found(NOTHING, "on", 0);
        x.refused(BAD, "on", 3);
        x.refused(BAD, "lots", 21, 1);
        x.found(NOTHING, "tower", 1);
        x.due(2, "text", 1, 2);
        x.refused(STATE, "tower", 1);
        x.due(1, "undo", 2);
        x.counts(4, 3);
        x.counts(3, 1);
        x.due(1, "undo", 1);
        x.counts(3, 0);
        x.counts(5, 1);
        x.due(1, "undo", 0);
        x.counts(4, 0);
        x.counts(5, 0);
        x.due(2, "on", 1);
        x.counts(4, 3);
        x.counts(3, 1);
    }

    @Says(in = 0, words = "FINDINGS: 1 NOTHING (a ROW, a TEXT, a kept TOWER that is missing)")
    static void missingThingsAreNothing(Probe x) {
        x.found(NOTHING, "at", 0, 0);
        x.found(NOTHING, "put", 0, 0, 0);
        x.found(NOTHING, "on", 0);
        x.due(1, "row", 0, 1);
        x.due(1, "text", 0, 1);
        x.told(1, 0, "at", 0, 0);
        x.due(1032, "put", 0, 0, 0);
    }

    @Says(in = 0, words = "2 BEYOND (a place of a ROW, a TEXT that there is not)")
    static void placesThatThereAreNotAreBeyond(Probe x) {
        x.due(1, "row", 0, 1);
        x.due(1, "text", 0, 1);
        x.found(BEYOND, "at", 0, 1);
        x.found(BEYOND, "lay", 0, -1, 0);
        x.found(BEYOND, "put", 0, 1, 0);
        x.found(BEYOND, "copy", 0, 1, 0, 0, 1);
    }

    @Says(in = 0, words = "3 UNLIKE (one of PEOPLE of another KIND; a number that is none)")
    static void othersAreUnlike(Probe x) {
        x.build("x0g10t10");
        x.found(UNLIKE, "mark", 0, 1);
        x.due(0, "mark", 1, 1);
        x.fill(0, 2, 0);
        x.found(UNLIKE, "kinds", 0, 0);
        x.fill(0, 1, 201);
        x.found(UNLIKE, "kinds", 0, 0);
    }

    @Says(in = 0, words = "4 NOUGHT (shared among none)")
    static void sharingAmongNoneIsNought(Probe x) {
        x.due(0, "row", 0, 0);
        x.found(NOUGHT, "mean", 0);
        x.due(1, "row", 0, 1);
        x.told(1, 0, "mean", 0);
    }

    @Says(in = 0, words = "5 SIZE (fewer than none; too many, not as many as due)")
    static void sizesThatCannotBeAreSize(Probe x) {
        x.found(SIZE, "row", 0, -1);
        x.found(SIZE, "text", 0, -1);
        x.found(SIZE, "copy", 0, 0, 0, 0, -1);
        x.build("x0g10g10");
        x.due(18, "row", 0, 18);
        x.found(SIZE, "next", 0, 0);
        x.due(3, "row", 0, 3);
        x.found(SIZE, "next", 0, 0);
    }

    @Says(in = 0, words = "Sets (of PEOPLE, of STONES, of KINDS) are told by bits")
    static void setsAreBits(Probe x) {
        x.build("x9o9o9o9o9g10g10g10g10g10g10");
        x.due(9, "go", 0, 5, 8, 0);
        x.counts(4, 0b100001);
        x.counts(5, 0b1000);
        x.due(0, "row", 0, 0);
        x.due(0b111111, "kinds", 0, 0);
    }

    @Says(in = 0, words = "(aside)")
    static void whatIsAskedAsideChangesNothing(Probe x) {
        x.build("x4o4g10g14g10n08");
        x.due(0, "go", 0, 1, 1, 0);
        x.leaves(3, "sink", 2, 3, 0, 0);
        x.aside(3, 0, "best", 2, 3);
        x.aside(2, 1, "pairs");
        x.aside(2, 15, "match");
        x.leaves(6, "waits", 2);
        x.aside(0, 0, "worth");
        x.leaves(0, "loaves", 2, 3);
        x.counts(2, 1);
    }

    // ---- 36 asked

    @Says(in = 36, words = "0 before")
    static void askedIsNoughtBeforeAnything(Probe x) {
        x.due(0, "asked");
        x.found(NOTHING, "at", 0, 0);
        x.refused(STATE, "worth");
        x.refused(BAD, "one", 0, 0);
        x.due(0, "asked");
    }

    @Says(in = 36, words = "that was not refused (nor NONE) told")
    static void askedIsLeftByRefusalsAndByNone(Probe x) {
        x.build("x0g10t11n99c03");
        x.fill(0, 5, 6, 7);
        x.told(1, 6, "at", 0, 1);
        x.found(BEYOND, "lay", 0, 3, 1);
        x.found(BEYOND, "at", 0, 3);
        x.found(NOTHING, "mean", 1);
        x.refused(BAD, "one", 0, 5);
        x.refused(BAD, "best", 0, 0);
        x.none("worth");
        x.refused(BAD, "up", 16);
        x.none("up", 1);
        x.refused(BAD, "down", -1);
        x.found(SIZE, "pounds", 0, 0);
        x.found(SIZE, "next", 0, 0);
        x.due(2, "row", 0, 2);
        x.due(1, "lay", 0, 0, 1);
        x.due(1, "lay", 0, 1, 200);
        x.told(1, 200, "at", 0, 1);
        x.none("next", 0, 0);
        x.none("waits", 2);
        x.none("loaves", 0, 1);
        x.none("fault", 0);
    }

    @Says(in = 36, words = "What the latest lay(), at(), mean(), one(), best(), pairs(), match(), worth(), up(), down(), pounds(), next()")
    static void askedIsTheLatestOfTheTwelve(Probe x) {
        x.build("x0o5g10g15g10t12");
        x.fill(0, 7, 20);
        x.told(1, 20, "lay", 0, 1, 30);
        x.told(1, 7, "at", 0, 0);
        x.told(1, 18, "mean", 0);
        x.told(1, 15, "one", 1, 2);
        x.told(0, 1, "best", 1, 0);
        x.told(3, 1, "pairs");
        x.told(1, 3, "match");
        x.told(0, 2, "worth");
        x.told(1, 2, "up", 4);
        x.told(0, NONE, "down", 4);
        x.due(0, "row", 0, 0);
        x.told(99, 1, "pounds", 0, 0);
        x.told(1, 2, "next", 0, 0);
    }

    @Says(in = 36, words = "pounds(), next() that was not refused (nor NONE) told")
    static void askedIsLeftByAllOtherCalls(Probe x) {
        x.build("x1o5g10g15g10t11");
        x.fill(0, 7);
        x.told(1, 7, "at", 0, 0);
        String[] others = {"row 1 2", "tear 1", "copy 0 0 0 0 1", "text 1 3", "put 1 0 5", "fault 0", "mark 3 1", "loaf",
            "go 0 2 0 0", "undo 1", "keep 0", "on 0", "sink 0 1 0 0", "waits 0", "loaves 0 2", "ever", "kinds 0 1",
            "send 1", "odds 0 2 6", "mid 0 2 6", "lots 2 1", "upper", "lower", "count 3", "finding", "findings 1",
            "digest", "tower 0"};
        for (String other : others) {
            x.asWritten(other);
            x.due(7, "asked");
        }
    }

    // ---- 37 upper, 38 lower

    @Says(in = 37, words = "0 before")
    static void upperIsNoughtBeforeAnything(Probe x) {
        x.due(0, "upper");
        x.refused(BAD, "odds", 0, 1, 1);
        x.due(0, "upper");
    }

    @Says(in = 37, words = "The upper number that was told last")
    static void upperIsToldLast(Probe x) {
        x.build("x0o5g10g15g10");
        x.shares(1, 6, "odds", 0, 1, 10);
        x.shares(25, 6, "mid", 0, 1, 10);
        x.refused(BAD, "mid", 0, 1, 13);
        x.due(25, "upper");
        x.due(0, "go", 0, 1, 1, 0);
        x.refused(STATE, "odds", 0, 2, 1);
        x.due(25, "upper");
        x.due(6, "lower");
    }

    @Says(in = 38, words = "1 before")
    static void lowerIsOneBeforeAnything(Probe x) {
        x.due(1, "lower");
        x.refused(BAD, "mid", 0, 1, 1);
        x.due(1, "lower");
    }

    @Says(in = 38, words = "Its lower number")
    static void lowerIsToldLast(Probe x) {
        x.build("x0o5g10g15g10");
        x.shares(1, 12, "odds", 0, 1, 11);
        x.refused(BAD, "odds", 0, 3, 11);
        x.due(12, "lower");
        x.shares(0, 1, "odds", 0, 1, 12);
        x.shares(5, 12, "mid", 0, 1, 1);
        x.due(12, "lower");
    }

    // ---- 39 count

    @Says(in = 39, words = "BAD")
    static void countOfNothingCountableIsBad(Probe x) {
        for (int what : outside(COUNTS)) {
            x.refused(BAD, "count", what);
        }
        x.leaves(0, "count", 0);
        x.leaves(0, "count", 12);
    }

    @Says(in = 39, words = "0 PEOPLE, 1 STONES, 2 DEEDS, 3 LOAVES, 4 PEOPLE at the TOP (bits), 5 STONES at the TOP (bits), 6 the LIMIT")
    static void countsOfAnEmptyAndOfAFullTower(Probe x) {
        for (int what = 0; what < COUNTS; what++) {
            x.leaves(0, "count", what);
        }
        x.build("x9o1o1o1o1g10g10g10g10g10g10");
        x.due(4, "go", 0, 1, 15, 0);
        x.due(0, "go", 2, 3, 0, 0);
        x.due(0, "go", 4, 5, 0, 0);
        x.loaves(9);
        x.goes(28, 4, 5);
        int[] want = {6, 4, 40, 9, 63, 15, 9, 4, 0, 0, 0, 1, 0};
        for (int what = 0; what < COUNTS; what++) {
            x.leaves(want[what], "count", what);
        }
    }

    @Says(in = 39, words = "7 steps that the stairs SANK in all GOES")
    static void stepsOfAllGoesThatStand(Probe x) {
        x.build("x9o9g10g19");
        for (int k = 1; k <= 40; k++) {
            x.due(9, "go", 0, 1, 0, 0);
            x.counts(7, 9 * k);
        }
        x.due(40, "keep", 0);
        x.due(39, "undo", 1);
        x.counts(7, 9);
        x.due(1, "loaf");
        x.counts(7, 9);
        x.due(40, "on", 0);
        x.counts(7, 360);
    }

    @Says(in = 39, words = "8 CHILDREN (BUNDLES, too), 9 LAME ones (CANONS, too)")
    static void countsOfKinds(Probe x) {
        x.build("x0c10b10c10b10b10c10");
        x.counts(8, 6);
        x.counts(9, 0);
        x.build("x0l10n10l10n10n10l10");
        x.counts(8, 0);
        x.counts(9, 6);
        x.build("x0g10t10g10t10l10c10");
        x.counts(8, 1);
        x.counts(9, 1);
    }

    @Says(in = 39, words = "10 ROWS, 11 TEXTS that are there, 12 kept TOWERS")
    static void countsOfWhatIsThere(Probe x) {
        x.build("x0g10g10");
        for (int r = 0; r < 6; r++) {
            x.due(0, "row", r, 0);
            x.due(0, "row", r, 0);
            x.counts(10, r + 1);
        }
        x.due(1, "tear", 3);
        x.counts(10, 5);
        for (int t = 1; t < 4; t++) {
            x.due(0, "text", t, 0);
            x.counts(11, t + 1);
        }
        for (int k = 0; k < 3; k++) {
            x.due(0, "keep", k);
            x.due(0, "keep", k);
            x.counts(12, k + 1);
        }
        x.due(2, "tower", 0);
        x.counts(12, 0);
        x.counts(11, 4);
    }

    // ---- 40 finding, 41 findings

    @Says(in = 40, words = "The latest FINDING (0 before any)")
    static void findingIsNoughtBeforeAnyAndTheLatestThen(Probe x) {
        x.due(0, "finding");
        x.refused(BAD, "row", 6, 0);
        x.refused(STATE, "loaf");
        x.due(0, "finding");
        x.due(0, "row", 0, 0);
        x.found(NOTHING, "tear", 1);
        x.found(SIZE, "row", 1, -1);
        x.found(BEYOND, "at", 0, 0);
        x.found(NOTHING, "fault", 0);
        x.found(NOUGHT, "mean", 0);
        x.refused(BAD, "row", 6, 0);
        x.due(NOUGHT, "finding");
    }

    @Says(in = 41, words = "BAD")
    static void findingsOfNoneAreBad(Probe x) {
        for (int f : new int[] {0, -1, 6, MIN, MAX}) {
            x.refused(BAD, "findings", f);
        }
        x.leaves(0, "findings", 1);
        x.leaves(0, "findings", 5);
    }

    @Says(in = 41, words = "How often a FINDING (1 .. 5) was answered")
    static void findingsCountEachForItself(Probe x) {
        x.build("x0g10g10");
        x.due(0, "row", 0, 0);
        String[] calls = {"at 1 0", "at 0 0", "mark 0 1", "mean 0", "row 0 -1"};
        for (int f = 1; f <= FINDINGS; f++) {
            for (int times = 0; times < f; times++) {
                x.holds(calls[f - 1] + " answers a FINDING", x.asWritten(calls[f - 1]) == FINDING);
            }
        }
        for (int f = 1; f <= FINDINGS; f++) {
            x.due(f, "findings", f);
        }
        x.due(5, "finding");
    }

    // ---- 42 digest

    private static long digestOf(long... values) {
        long h = 17;
        for (long v : values) {
            h = 31 * h + v;
        }
        return h;
    }

    @Says(in = 42, words = {"h = 17; then h = 31 h + v for each v", "count() 0 to 12"})
    static void digestOfANewObject(Probe x) {
        x.due(digestOf(0, 0, 0, 0, 0, 0, 0, 0, 0, 0, 0, 0, 0, -1, -1, -1, -1, -1, -1, -1, -1, -1, -1, -1, -1, -1), "digest");
    }

    @Says(in = 42, words = "of each kept TOWER how many DEEDS (-1: missing)")
    static void digestTellsAnEmptyKeptTowerFromAMissingOne(Probe x) {
        x.build("x0g10g11");
        long[] people = {0, 10, 10, 0, 0, 0, 11, 11, 0, 0};
        due(x, people, new long[] {-1, -1, -1}, 0);
        x.due(0, "keep", 1);
        due(x, people, new long[] {-1, 0, -1}, 1);
        x.due(1, "loaf");
        x.due(1, "keep", 2);
        x.due(1, "undo", 0);
        due(x, people, new long[] {-1, 0, 1}, 2);
    }

    private static void due(Probe x, long[] people, long[] kept, int many) {
        long h = digestOf(2, 0, 0, 0, 0, 0, 0, 0, 0, 0, 0, 1, many);
        for (long v : people) {
            h = 31 * h + v;
        }
        for (long v : kept) {
            h = 31 * h + v;
        }
        for (int r = 0; r < 6; r++) {
            h = 31 * h - 1;
        }
        h = 31 * h + 8;
        for (char sign : "x0g10g11".toCharArray()) {
            h = 31 * h + sign;
        }
        for (int t = 1; t < 4; t++) {
            h = 31 * h - 1;
        }
        x.due(h, "digest");
    }

    @Says(in = 42, words = "of each ROW its size (-1: missing) and places, of each TEXT likewise")
    static void digestTellsAnEmptyRowFromAMissingOne(Probe x) {
        x.due(0, "row", 0, 0);
        x.fill(5, MIN, MAX);
        x.due(0, "text", 3, 0);
        x.due(2, "text", 0, 2);
        x.due(1032, "put", 0, 1, -128);
        x.due(digestOf(0, 0, 0, 0, 0, 0, 0, 0, 0, 0, 2, 2, 0, -1, -1, -1, 0, -1, -1, -1, -1, 2, MIN, MAX,
            2, 32, -128, -1, -1, 0), "digest");
    }

    @Says(in = 42, words = "POUNDS of each STONE; of each of PEOPLE one() 0 to 4")
    static void digestTellsStonesAndPeople(Probe x) {
        x.build("x0o9o1n99t08");
        x.due(1, "loaf");
        x.due(digestOf(2, 2, 1, 1, 0, 0, 0, 0, 0, 1, 0, 1, 0, 9, 1, 4, 99, 105, 0, 0, 1, 8, 8, 0, 0, -1, -1, -1,
            -1, -1, -1, -1, -1, -1, 12, 'x', '0', 'o', '9', 'o', '1', 'n', '9', '9', 't', '0', '8', -1, -1, -1), "digest");
    }

    @Says(in = 42, words = "(of a call that tells by asked(): what it tells, not the 1 that it answers; asked() stays)")
    static void digestLeavesAsked(Probe x) {
        x.build("x0g10g10");
        x.fill(0, 3);
        x.told(1, 3, "at", 0, 0);
        x.ask("digest");
        x.due(3, "asked");
        x.due(0, "finding");
    }

    private ToldEdgesTests() {
    }
}
