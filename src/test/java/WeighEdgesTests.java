/** The edges of what is told by how far it sank: promises 29 to 31, each by itself. */
final class WeighEdgesTests extends Edges {
    private static final int ROWS = 6, ALL_KINDS = 63;
    private static final String[] CALLS = {"pounds", "kinds", "next"};
    private static final int GUEST = 1, TWIN = 2, CHILD = 4, LAME = 8, CANON = 16, BUNDLE = 32;

    public static void main(String[] args) {
        run(WeighEdgesTests.class);
    }

    /** Each of the three calls about one and a ROW that they refuse. */
    private static void allFind(Probe x, int finding, int i, int r) {
        for (String call : CALLS) {
            x.found(finding, call, i, r);
        }
    }

    private static void allTake(Probe x, int i, int r) {
        for (String call : CALLS) {
            long answer = x.ask(call, i, r);
            x.holds(call + " takes the ROW", answer >= 0 || answer == NONE);
        }
    }

    private static void badOfNobody(Probe x, String call) {
        x.due(0, "row", 0, 0);
        x.refused(BAD, call, 0, 0);
        x.build("x0g10g11g12");
        for (int i : outside(3)) {
            x.refused(BAD, call, i, 0);
        }
        x.holds("the last one is taken", x.ask(call, 2, 0) >= 0);
    }

    private static void badOfNoRow(Probe x, String call) {
        x.build("x0g10g11g12");
        x.due(0, "row", 0, 0);
        x.due(0, "row", 5, 0);
        for (int r : outside(ROWS)) {
            x.refused(BAD, call, 0, r);
        }
        x.holds("the first ROW is taken", x.ask(call, 0, 0) >= 0);
        x.holds("the last ROW is taken", x.ask(call, 0, 5) >= 0);
    }

    private static void sizeByPairsThatAreNone(Probe x, String call) {
        x.build("x0g10g10");
        for (int size : new int[] {1, 15, 17, 18, 40}) {
            x.due(size, "row", 0, size);
            x.found(SIZE, call, 0, 0);
        }
    }

    private static void unlikeByOneselfOrNobody(Probe x, String call) {
        x.build("x0g10g10");
        for (int other : new int[] {0, 2, -1}) {
            x.fill(0, other, 0);
            x.found(UNLIKE, call, 0, 0);
        }
        for (int sank : new int[] {-1, 201}) {
            x.fill(0, 1, sank);
            x.found(UNLIKE, call, 0, 0);
        }
    }

    // ---- ahead of the promises

    @Says(in = 0, words = "(a ROW of pairs, 0 to 8")
    static void rowHasNoneToEightPairs(Probe x) {
        x.build("x0g10g10g10");
        for (int pairs = 0; pairs <= 8; pairs += 4) {
            x.due(2 * pairs, "row", 0, 2 * pairs);
            for (int k = 0; k < pairs; k++) {
                x.due(1, "lay", 0, 2 * k, 1);
            }
            allTake(x, 0, 0);
        }
        x.due(18, "row", 0, 18);
        for (int k = 0; k < 9; k++) {
            x.due(1, "lay", 0, 2 * k, 1);
        }
        allFind(x, SIZE, 0, 0);
        x.due(40, "row", 0, 40);
        allFind(x, SIZE, 0, 0);
    }

    @Says(in = 0, words = "SIZE")
    static void rowOfOddSizeHasNoPairs(Probe x) {
        x.build("x0g10g10g10");
        for (int size : new int[] {1, 3, 15, 17}) {
            x.due(size, "row", 0, size);
            for (int k = 0; k < size; k += 2) {
                x.due(1, "lay", 0, k, 1);
            }
            allFind(x, SIZE, 0, 0);
        }
    }

    @Says(in = 0, words = "another one, by how much it SANK 0 .. 200")
    static void stairsSankByNoughtToTwoHundred(Probe x) {
        x.build("x0g10g10g10");
        for (int sank : new int[] {0, 200}) {
            x.fill(0, 1, sank);
            allTake(x, 0, 0);
        }
        for (int sank : new int[] {-1, 201, MIN, MAX}) {
            x.fill(0, 1, sank);
            allFind(x, UNLIKE, 0, 0);
        }
    }

    @Says(in = 0, words = "another one, by how much it SANK 0 .. 200")
    static void anotherOneMustBeOneOfPeople(Probe x) {
        x.build("x0g10g10g10");
        for (int other : new int[] {1, 2}) {
            x.fill(0, other, 3);
            allTake(x, 0, 0);
        }
        for (int other : outside(3)) {
            x.fill(0, other, 3);
            allFind(x, UNLIKE, 0, 0);
        }
    }

    @Says(in = 0, words = "UNLIKE: also oneself")
    static void oneIsNotWeighedWithOneself(Probe x) {
        x.build("x0g10g10g10");
        for (int i = 0; i < 3; i++) {
            x.fill(0, i, 0);
            allFind(x, UNLIKE, i, 0);
            allTake(x, (i + 1) % 3, 0);
        }
    }

    @Says(in = 0, words = "UNLIKE: also oneself")
    static void onlyTheLastOfEightPairsIsUnlike(Probe x) {
        x.build("x0g10g10g10");
        x.fill(0, 1, 0, 1, 0, 1, 0, 1, 0, 1, 0, 1, 0, 1, 0, 1, 0);
        allTake(x, 0, 0);
        x.told(1, 0, "lay", 0, 15, 201);
        allFind(x, UNLIKE, 0, 0);
        x.told(1, 201, "lay", 0, 15, 200);
        allTake(x, 0, 0);
        x.told(1, 1, "lay", 0, 14, 0);
        allFind(x, UNLIKE, 0, 0);
        x.told(1, 0, "lay", 0, 14, 3);
        allFind(x, UNLIKE, 0, 0);
    }

    @Says(in = 0, words = "NOTHING; SIZE; UNLIKE: also oneself; behind BAD")
    static void weighingIsRefusedInThatOrder(Probe x) {
        x.build("x0g10g10g10");
        x.due(17, "row", 0, 17);
        for (String call : CALLS) {
            x.refused(BAD, call, 3, 1);
            x.refused(BAD, call, 3, 0);
            x.refused(BAD, call, 0, 6);
            x.found(NOTHING, call, 0, 1);
            x.found(SIZE, call, 0, 0);
        }
        x.fill(0, 0, 201, 9);
        allFind(x, SIZE, 0, 0);
        x.fill(0, 0, 201);
        allFind(x, UNLIKE, 0, 0);
        for (String call : CALLS) {
            x.refused(BAD, call, -1, 0);
        }
    }

    @Says(in = 0, words = "both without STONES")
    static void stonesAndEndsDoNotMatterInWeighing(Probe x) {
        x.build("x9o9g20g20g29");
        x.due(9, "go", 0, 1, 1, 0);
        x.fill(0, 2, 9);
        x.told(2, 20, "pounds", 0, 0);
        x.due(GUEST + TWIN, "kinds", 0, 0);
        x.told(1, 2, "next", 0, 0);
    }

    // ---- 29 pounds

    @Says(in = 29, words = "BAD")
    static void poundsOfNobodyAreBad(Probe x) {
        badOfNobody(x, "pounds");
        badOfNoRow(x.another(), "pounds");
    }

    @Says(in = 29, words = "NOTHING")
    static void poundsByAMissingRowAreNothing(Probe x) {
        x.build("x0g10g10");
        x.found(NOTHING, "pounds", 0, 0);
        x.due(0, "row", 0, 0);
        x.told(99, 1, "pounds", 0, 0);
        x.due(1, "tear", 0);
        x.found(NOTHING, "pounds", 1, 0);
    }

    @Says(in = 29, words = "SIZE")
    static void poundsByPairsThatAreNoneAreSize(Probe x) {
        sizeByPairsThatAreNone(x, "pounds");
    }

    @Says(in = 29, words = "UNLIKE")
    static void poundsByOneselfOrNobodyAreUnlike(Probe x) {
        unlikeByOneselfOrNobody(x, "pounds");
    }

    @Says(in = 29, words = "How many POUNDS (1 .. 99) one can have by these")
    static void poundsAreOneToNinetyNine(Probe x) {
        x.build("x0g50g50g99g01");
        x.due(0, "row", 0, 0);
        x.aside(99, 1, "pounds", 0, 0);
        x.fill(0, 1, 49);
        x.aside(2, 1, "pounds", 0, 0);
        x.fill(0, 1, 48);
        x.aside(2, 2, "pounds", 0, 0);
        x.fill(0, 1, 0);
        x.aside(1, 50, "pounds", 0, 0);
        x.fill(0, 2, 98);
        x.aside(1, 1, "pounds", 0, 0);
        x.fill(0, 3, 98);
        x.aside(1, 99, "pounds", 0, 0);
        x.fill(0, 1, 49, 3, 98);
        x.aside(1, 99, "pounds", 0, 0);
    }

    @Says(in = 29, words = "the least by asked() (NONE: there are none)")
    static void poundsOfNoneTellNone(Probe x) {
        x.build("x0g50g50g99g01");
        x.fill(0, 1, 50);
        x.aside(0, NONE, "pounds", 0, 0);
        x.fill(0, 2, 99);
        x.aside(0, NONE, "pounds", 0, 0);
        x.fill(0, 3, 99);
        x.aside(0, NONE, "pounds", 0, 0);
        x.fill(0, 1, 200);
        x.aside(0, NONE, "pounds", 0, 0);
        x.fill(0, 1, 1, 2, 49);
        x.aside(0, NONE, "pounds", 0, 0);
    }

    @Says(in = 29, words = "How many POUNDS (1 .. 99) one can have by these")
    static void poundsByKind(Probe x) {
        x.build("x0t10c10l10n10b10t50");
        x.fill(0, 5, 24);
        x.told(4, 1, "pounds", 0, 0);
        x.fill(0, 5, 50);
        x.told(1, 1, "pounds", 1, 0);
        x.fill(0, 5, 54);
        x.told(1, 99, "pounds", 2, 0);
        x.fill(0, 5, 54);
        x.told(1, 99, "pounds", 3, 0);
        x.loaves(9);
        x.told(1, 90, "pounds", 3, 0);
        x.fill(0, 5, 35);
        x.told(2, 1, "pounds", 3, 0);
        x.fill(0, 5, 50);
        x.told(3, 1, "pounds", 4, 0);
        x.fill(0, 5, 26);
        x.told(4, 96, "pounds", 4, 0);
    }

    // ---- 30 kinds

    @Says(in = 30, words = "BAD")
    static void kindsOfNobodyAreBad(Probe x) {
        badOfNobody(x, "kinds");
        badOfNoRow(x.another(), "kinds");
    }

    @Says(in = 30, words = "NOTHING")
    static void kindsByAMissingRowAreNothing(Probe x) {
        x.build("x0g10g10");
        x.found(NOTHING, "kinds", 0, 0);
        x.due(0, "row", 0, 0);
        x.leaves(ALL_KINDS, "kinds", 0, 0);
        x.due(1, "tear", 0);
        x.found(NOTHING, "kinds", 1, 0);
    }

    @Says(in = 30, words = "SIZE")
    static void kindsByPairsThatAreNoneAreSize(Probe x) {
        sizeByPairsThatAreNone(x, "kinds");
    }

    @Says(in = 30, words = "UNLIKE")
    static void kindsByOneselfOrNobodyAreUnlike(Probe x) {
        unlikeByOneselfOrNobody(x, "kinds");
    }

    @Says(in = 30, words = "Of which KINDS (bits) one can be by these")
    static void kindsAreAllSomeOrNone(Probe x) {
        x.build("x0g40g10t10");
        x.due(1, "loaf");
        x.due(0, "row", 0, 0);
        x.leaves(ALL_KINDS, "kinds", 0, 0);
        int[][] byGuest = {{30, GUEST + TWIN}, {10, CHILD}, {35, LAME}, {36, CANON}, {0, BUNDLE}, {15, 0}, {200, 0}};
        for (int[] pair : byGuest) {
            x.fill(0, 1, pair[0]);
            x.leaves(pair[1], "kinds", 0, 0);
        }
        x.fill(0, 2, 15);
        x.leaves(TWIN, "kinds", 0, 0);
        x.fill(0, 2, 30);
        x.leaves(GUEST, "kinds", 0, 0);
        x.fill(0, 1, 30, 2, 15);
        x.leaves(TWIN, "kinds", 0, 0);
        x.fill(0, 1, 30, 2, 30, 1, 31);
        x.leaves(0, "kinds", 0, 0);
    }

    // ---- 31 next

    @Says(in = 31, words = "BAD")
    static void nextOfNobodyIsBad(Probe x) {
        badOfNobody(x, "next");
        badOfNoRow(x.another(), "next");
    }

    @Says(in = 31, words = "NOTHING")
    static void nextByAMissingRowIsNothing(Probe x) {
        x.build("x0g10g10");
        x.found(NOTHING, "next", 0, 0);
        x.due(0, "row", 0, 0);
        x.told(1, 3, "next", 0, 0);
        x.due(1, "tear", 0);
        x.found(NOTHING, "next", 1, 0);
    }

    @Says(in = 31, words = "SIZE")
    static void nextByPairsThatAreNoneIsSize(Probe x) {
        sizeByPairsThatAreNone(x, "next");
    }

    @Says(in = 31, words = "UNLIKE")
    static void nextByOneselfOrNobodyIsUnlike(Probe x) {
        unlikeByOneselfOrNobody(x, "next");
    }

    @Says(in = 31, words = "NONE: there is no KIND")
    static void nextWithoutAKindIsNone(Probe x) {
        x.build("x0g40g10");
        x.fill(0, 1, 30);
        x.told(1, 2, "next", 0, 0);
        x.fill(0, 1, 31);
        x.none("next", 0, 0);
        x.fill(0, 1, 200);
        x.none("next", 0, 0);
    }

    @Says(in = 31, words = "With whom (the first) it should be weighed next")
    static void nextIsTheFirstOfLikeGood(Probe x) {
        x.build("x0g40g41g41t45t45g40");
        x.due(0, "row", 0, 0);
        x.aside(1, 2, "next", 0, 0);
        x.aside(0, 2, "next", 3, 0);
        x.due(1, "loaf");
        x.aside(3, 1, "next", 0, 0);
        x.aside(0, 2, "next", 3, 0);
        x.aside(0, 2, "next", 4, 0);
        x.aside(3, 1, "next", 5, 0);
        Probe two = x.another();
        two.build("x0g40g40");
        two.due(0, "row", 0, 0);
        two.aside(1, 2, "next", 0, 0);
        two.aside(0, 2, "next", 1, 0);
    }

    @Says(in = 31, words = "the greatest part of KINDS by which it SINKS alike is least; that part by asked()")
    static void nextTellsPartsOfOneToFour(Probe x) {
        x.build("x0g01g03");
        x.due(0, "row", 0, 0);
        x.aside(1, 4, "next", 0, 0);
        Probe one = x.another();
        one.build("x0g40g20t20g99");
        one.fill(0, 1, 0);
        one.aside(1, 1, "next", 0, 0);
        one.fill(0, 1, 20);
        one.aside(2, 1, "next", 0, 0);
        one.fill(0, 1, 25);
        one.aside(1, 2, "next", 0, 0);
    }

    @Says(in = 31, words = "so that these KINDS are told apart best")
    static void nextOfOneKindTellsAPartOfOne(Probe x) {
        x.build("x0g40t41g20");
        x.due(1, "loaf");
        int[][] kindsBy = {{1, GUEST}, {0, TWIN}, {21, CHILD}, {4, LAME}, {5, CANON}, {31, BUNDLE}};
        for (int[] one : kindsBy) {
            x.fill(0, 1, one[0]);
            x.due(one[1], "kinds", 0, 0);
            x.told(1, 1, "next", 0, 0);
        }
    }

    private WeighEdgesTests() {
    }
}
