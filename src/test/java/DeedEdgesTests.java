/** The edges of DEEDS: promises 14 to 18 and what stands ahead of them of GOES and LOAVES, each by itself. */
final class DeedEdgesTests extends Edges {
    private static final int DEEDS = 40, LOAVES = 9, PLACES = 3;

    public static void main(String[] args) {
        run(DeedEdgesTests.class);
    }

    // ---- ahead of the promises

    @Says(in = 0, words = "All PEOPLE, all STONES are at the FOOT at first, no LOAF is eaten")
    static void allAreAtTheFootAtFirst(Probe x) {
        x.build("x9o1o2o3o4g10g11g12g13g14g15");
        x.counts(2, 0);
        x.counts(3, 0);
        x.counts(4, 0);
        x.counts(5, 0);
        x.counts(7, 0);
        for (int i = 0; i < 6; i++) {
            x.told(1, 0, "one", i, 3);
        }
        x.due(9, "go", 0, 1, 15, 0);
        x.counts(4, 3);
        x.counts(5, 15);
    }

    @Says(in = 0, words = "Two GO: both at the FOOT, or both at the TOP")
    static void twoAtUnlikeEndsDoNotGo(Probe x) {
        x.build("x0g10g10g10g10");
        x.due(0, "go", 0, 1, 0, 0);
        x.refused(STATE, "go", 1, 2, 0, 0);
        x.refused(STATE, "go", 2, 1, 0, 0);
        x.due(0, "go", 3, 2, 0, 0);
        x.counts(4, 15);
        x.due(0, "go", 1, 2, 0, 0);
        x.counts(4, 9);
    }

    @Says(in = 0, words = "with STONES that are there, too (each with one of both, or left)")
    static void stonesThatAreLeftStay(Probe x) {
        x.build("x9o1o2o4g10g10");
        x.due(1, "go", 0, 1, 1, 2);
        x.counts(5, 3);
        x.refused(STATE, "go", 0, 1, 4, 0);
        x.refused(STATE, "go", 0, 1, 0, 4);
        x.refused(STATE, "go", 0, 1, 1, 6);
        x.due(2, "go", 0, 1, 0, 2);
        x.counts(5, 1);
        x.refused(STATE, "go", 0, 1, 1, 0);
        x.due(2, "go", 0, 1, 4, 2);
        x.counts(5, 7);
    }

    @Says(in = 0, words = "if the stairs SINK by the LIMIT at most")
    static void twoGoByTheLimitAndNotByOneMore(Probe x) {
        for (int limit = 0; limit <= 9; limit++) {
            Probe one = x.another();
            one.build("x" + limit + "g10g1" + limit);
            one.due(limit, "go", 1, 0, 0, 0);
            one.build("x" + limit + "g50g" + (51 + limit));
            one.refused(SPENT, "go", 0, 1, 0, 0);
            one.refused(SPENT, "go", 1, 0, 0, 0);
        }
    }

    @Says(in = 0, words = "they and these STONES are at the other end then")
    static void onlyTheseTwoAndTheseStonesMove(Probe x) {
        x.build("x9o1o2o3o4g10g10g10g10g10g10");
        x.due(4, "go", 0, 5, 0, 8);
        x.counts(4, 0b100001);
        x.counts(5, 8);
        x.due(1, "go", 1, 4, 1, 0);
        x.counts(4, 0b110011);
        x.counts(5, 9);
        x.due(4, "go", 4, 5, 8, 0);
        x.counts(4, 0b000011);
        x.counts(5, 1);
    }

    @Says(in = 0, words = "A LOAF is eaten (9 at most)")
    static void nineLoavesAreEatenAtMost(Probe x) {
        x.build("x0n10g24");
        x.loaves(LOAVES);
        x.refused(STATE, "loaf");
        x.counts(3, LOAVES);
        x.due(0, "go", 0, 1, 0, 0);
    }

    @Says(in = 0, words = "What is done: a GO, a LOAF. These are DEEDS 0, 1, .. (40 at most)")
    static void fortyDeedsAreDoneAtMost(Probe x) {
        x.build("x0g10g10");
        x.loaves(2);
        x.goes(38, 0, 1);
        x.counts(2, DEEDS);
        x.refused(FULL, "go", 0, 1, 0, 0);
        x.refused(FULL, "loaf");
        x.refused(FULL, "lots", 1, 1);
        x.counts(2, DEEDS);
    }

    @Says(in = 0, words = "Two CAN go, if they can with some of the STONES at their end, or with none")
    static void twoCanGoBySomeSetOfStones(Probe x) {
        x.build("x0o5o9g10g10g15g19g24g14");
        x.told(1, 0b111110, "one", 0, 4);
        x.due(0, "go", 0, 1, 0, 0);
        x.told(1, 0b000010, "one", 0, 4);
        x.told(1, 0b011000, "one", 2, 4);
    }

    // ---- 14 go

    @Says(in = 14, words = "BAD")
    static void goOfNobodyIsBad(Probe x) {
        x.refused(BAD, "go", 0, 1, 0, 0);
        x.build("x9g10g10g10");
        for (int i : outside(3)) {
            x.refused(BAD, "go", i, 0, 0, 0);
            x.refused(BAD, "go", 0, i, 0, 0);
            x.refused(BAD, "go", i, i, 0, 0);
        }
        x.due(0, "go", 2, 0, 0, 0);
    }

    @Says(in = 14, words = "also the same")
    static void goOfOneWithOneselfIsBad(Probe x) {
        x.build("x9o1g10g10");
        x.refused(BAD, "go", 0, 0, 0, 0);
        x.refused(BAD, "go", 1, 1, 1, 0);
        x.due(0, "go", 0, 1, 0, 0);
        x.refused(BAD, "go", 1, 1, 0, 0);
    }

    @Says(in = 14, words = "sets that are none")
    static void goWithSetsThatAreNoneIsBad(Probe x) {
        String[] stones = {"", "o1", "o1o1", "o1o1o1", "o1o1o1o1"};
        for (int many = 0; many <= 4; many++) {
            Probe one = x.another();
            one.build("x9" + stones[many] + "g10g10");
            for (int set : outside(1 << many)) {
                one.refused(BAD, "go", 0, 1, set, 0);
                one.refused(BAD, "go", 0, 1, 0, set);
            }
            one.due(many, "go", 0, 1, 0, (1 << many) - 1);
            one.due(many, "go", 0, 1, (1 << many) - 1, 0);
        }
    }

    @Says(in = 14, words = "or share a STONE")
    static void goWithSetsThatShareAStoneIsBad(Probe x) {
        x.build("x9o1o1o1o1g10g10");
        for (int s = 0; s < 4; s++) {
            x.refused(BAD, "go", 0, 1, 1 << s, 1 << s);
            x.refused(BAD, "go", 0, 1, 15, 1 << s);
        }
        x.refused(BAD, "go", 0, 1, 7, 12);
        x.due(0, "go", 0, 1, 5, 10);
    }

    @Says(in = 14, words = "STATE: not at one end")
    static void goOfTwoNotAtOneEndIsState(Probe x) {
        x.build("x9o1g10g10g10g10");
        x.due(1, "go", 0, 1, 1, 0);
        x.refused(STATE, "go", 0, 2, 0, 0);
        x.refused(STATE, "go", 2, 0, 0, 0);
        x.refused(STATE, "go", 0, 2, 1, 0);
        x.due(0, "go", 2, 3, 0, 0);
        x.due(0, "go", 0, 2, 0, 0);
        x.refused(STATE, "go", 0, 1, 0, 0);
    }

    @Says(in = 14, words = "STONES that are not there")
    static void goWithStonesFromTheOtherEndIsState(Probe x) {
        x.build("x9o1o1g10g10g10g10");
        x.due(1, "go", 0, 1, 1, 0);
        x.refused(STATE, "go", 2, 3, 1, 0);
        x.refused(STATE, "go", 2, 3, 0, 1);
        x.refused(STATE, "go", 2, 3, 3, 0);
        x.refused(STATE, "go", 2, 3, 1, 2);
        x.refused(STATE, "go", 0, 1, 2, 0);
        x.refused(STATE, "go", 0, 1, 2, 1);
        x.due(1, "go", 2, 3, 0, 2);
        x.due(0, "go", 0, 1, 2, 1);
    }

    @Says(in = 14, words = "SPENT: the stairs SINK too much")
    static void goByOneAboveTheLimitIsSpent(Probe x) {
        x.build("x2o2g10g13t30t35t36");
        x.refused(SPENT, "go", 0, 1, 0, 0);
        x.refused(SPENT, "go", 1, 0, 0, 0);
        x.refused(SPENT, "go", 0, 1, 0, 1);
        x.refused(SPENT, "go", 2, 4, 0, 0);
        x.due(2, "go", 2, 3, 0, 0);
        x.refused(SPENT, "go", 0, 4, 0, 0);
        x.due(1, "go", 0, 1, 1, 0);
        x.counts(7, 3);
    }

    @Says(in = 14, words = "FULL: 40 DEEDS")
    static void fortyFirstGoIsFull(Probe x) {
        x.build("x0g10g10");
        x.goes(39, 0, 1);
        x.counts(4, 3);
        x.due(0, "go", 0, 1, 0, 0);
        x.counts(4, 0);
        x.refused(FULL, "go", 0, 1, 0, 0);
        x.refused(FULL, "go", 1, 0, 0, 0);
        x.due(1, "undo", 39);
        x.due(0, "go", 1, 0, 0, 0);
        x.refused(FULL, "go", 0, 1, 0, 0);
    }

    @Says(in = 14, words = "(FULL last.)")
    static void fullGoIsRefusedForAnotherReasonFirst(Probe x) {
        x.build("x0o1g10g10g12g10");
        x.due(0, "go", 0, 1, 0, 0);
        x.due(1, "loaf");
        x.goes(38, 0, 1);
        x.counts(2, DEEDS);
        x.refused(FULL, "go", 0, 1, 0, 0);
        x.refused(BAD, "go", 0, 0, 0, 0);
        x.refused(BAD, "go", 0, 4, 0, 0);
        x.refused(BAD, "go", 0, 1, 2, 0);
        x.refused(BAD, "go", 0, 1, 1, 1);
        x.refused(STATE, "go", 0, 3, 0, 0);
        x.refused(STATE, "go", 0, 1, 1, 0);
        x.refused(SPENT, "go", 2, 3, 0, 0);
    }

    @Says(in = 14, words = "BAD: also the same, sets that are none, or share a STONE; STATE: not at one end, STONES that are not there; SPENT")
    static void goIsRefusedInThatOrder(Probe x) {
        x.build("x0o9g10g10g50g10");
        x.due(0, "go", 0, 1, 0, 0);
        x.refused(BAD, "go", 0, 2, 1, 1);
        x.refused(BAD, "go", 0, 2, 2, 0);
        x.refused(BAD, "go", 0, 4, 1, 0);
        x.refused(STATE, "go", 0, 2, 0, 0);
        x.refused(STATE, "go", 0, 1, 1, 0);
        x.refused(SPENT, "go", 2, 3, 1, 0);
    }

    @Says(in = 14, words = "the first with a set of STONES, the other one with another set: by how much the stairs SINK")
    static void goAnswersItsSteps(Probe x) {
        x.build("x9o1o9g10g12t20t29");
        x.due(6, "go", 0, 1, 2, 1);
        x.due(6, "go", 1, 0, 1, 2);
        x.due(4, "go", 3, 2, 0, 1);
        x.due(4, "go", 2, 3, 1, 0);
        x.due(9, "go", 3, 2, 2, 0);
        x.counts(7, 29);
    }

    // ---- 15 loaf

    @Says(in = 15, words = "STATE: no PEOPLE")
    static void loafForNobodyIsState(Probe x) {
        x.refused(STATE, "loaf");
        x.write(0, "x0g10");
        x.refused(STATE, "tower", 0);
        x.refused(STATE, "loaf");
    }

    @Says(in = 15, words = "9 are")
    static void tenthLoafIsState(Probe x) {
        x.build("x0g10g10");
        x.loaves(8);
        x.due(9, "loaf");
        x.refused(STATE, "loaf");
        x.due(1, "undo", 8);
        x.due(9, "loaf");
        x.refused(STATE, "loaf");
    }

    @Says(in = 15, words = "FULL")
    static void loafBehindFortyDeedsIsFull(Probe x) {
        x.build("x0g10g10");
        x.goes(39, 0, 1);
        x.due(1, "loaf");
        x.refused(FULL, "loaf");
        x.due(1, "undo", 39);
        x.due(1, "loaf");
        x.counts(2, DEEDS);
    }

    @Says(in = 15, words = "(FULL last.)")
    static void loafIsStateAheadOfFull(Probe x) {
        x.build("x0g10g10");
        x.loaves(9);
        x.goes(30, 0, 1);
        x.refused(STATE, "loaf");
        x.goes(1, 0, 1);
        x.counts(2, DEEDS);
        x.refused(STATE, "loaf");
        x.due(40, "undo", 0);
        x.loaves(8);
        x.goes(32, 0, 1);
        x.refused(FULL, "loaf");
    }

    @Says(in = 15, words = "A LOAF: how many are eaten")
    static void loafIsADeedAndMovesNobody(Probe x) {
        x.build("x0g10g10");
        x.due(0, "go", 0, 1, 0, 0);
        x.due(1, "loaf");
        x.counts(2, 2);
        x.counts(4, 3);
        x.counts(7, 0);
        x.due(2, "loaf");
        x.counts(3, 2);
    }

    // ---- 16 undo

    @Says(in = 16, words = "BAD")
    static void undoFromADeedThatIsNoneIsBad(Probe x) {
        x.refused(BAD, "undo", -1);
        x.refused(BAD, "undo", 1);
        x.build("x0g10g10");
        x.loaves(3);
        for (int n : outside(4)) {
            x.refused(BAD, "undo", n);
        }
        x.due(1, "undo", 2);
        x.refused(BAD, "undo", 3);
    }

    @Says(in = 16, words = "(0 to how many there are: none then)")
    static void undoFromTheEndUndoesNone(Probe x) {
        x.leaves(0, "undo", 0);
        x.build("x0g10g10");
        x.leaves(0, "undo", 0);
        x.loaves(3);
        x.leaves(0, "undo", 3);
        x.counts(3, 3);
    }

    @Says(in = 16, words = "DEEDS from number n on")
    static void undoFromNoughtUndoesAllForty(Probe x) {
        x.build("x2o2g10g10");
        for (int k = 0; k < DEEDS; k++) {
            x.due(2, "go", 0, 1, 1, 0);
        }
        x.counts(7, 80);
        x.refused(BAD, "undo", 41);
        x.leaves(0, "undo", 40);
        x.due(1, "undo", 39);
        x.counts(4, 3);
        x.counts(5, 1);
        x.counts(7, 78);
        x.due(39, "undo", 0);
        for (int what : new int[] {2, 3, 4, 5, 7}) {
            x.counts(what, 0);
        }
        x.leaves(0, "undo", 0);
    }

    // ---- 17 keep

    @Says(in = 17, words = "BAD")
    static void keepInNoPlaceIsBad(Probe x) {
        x.build("x0g10g10");
        for (int k : outside(PLACES)) {
            x.refused(BAD, "keep", k);
        }
        x.due(0, "keep", 0);
        x.due(0, "keep", 2);
        for (int k : outside(PLACES)) {
            x.refused(BAD, "keep", k);
        }
        x.counts(12, 2);
    }

    @Says(in = 17, words = "(0 .. 2)")
    static void allThreePlacesKeep(Probe x) {
        x.build("x0g10g10");
        for (int k = 0; k < PLACES; k++) {
            x.due(k, "keep", k);
            x.counts(12, k + 1);
            x.due(k + 1, "loaf");
        }
        for (int k = 0; k < PLACES; k++) {
            x.due(k, "on", k);
            x.counts(3, k);
        }
    }

    @Says(in = 17, words = "STATE: no PEOPLE")
    static void keepOfNobodyIsState(Probe x) {
        for (int k = 0; k < PLACES; k++) {
            x.refused(STATE, "keep", k);
        }
        x.counts(12, 0);
        x.found(NOTHING, "on", 0);
    }

    @Says(in = 17, words = "BAD; STATE: no PEOPLE")
    static void keepIsBadAheadOfState(Probe x) {
        for (int k : outside(PLACES)) {
            x.refused(BAD, "keep", k);
        }
    }

    @Says(in = 17, words = "The TOWER (as it is, DEEDS) is kept")
    static void keptTowerDoesNotChangeWithWhatIsDoneLater(Probe x) {
        x.build("x0g10g10");
        x.goes(1, 0, 1);
        x.due(1, "keep", 0);
        x.due(1, "undo", 0);
        x.loaves(2);
        x.due(1, "on", 0);
        x.counts(3, 0);
        x.counts(4, 3);
        x.loaves(3);
        x.due(1, "on", 0);
        x.counts(3, 0);
    }

    @Says(in = 17, words = "how many DEEDS")
    static void keepAgainTakesTheLaterOne(Probe x) {
        x.build("x0g10g10");
        x.goes(DEEDS, 0, 1);
        x.due(DEEDS, "keep", 1);
        x.due(39, "undo", 1);
        x.due(1, "keep", 1);
        x.counts(12, 1);
        x.due(1, "undo", 0);
        x.due(1, "on", 1);
        x.counts(4, 3);
        x.counts(2, 1);
    }

    // ---- 18 on

    @Says(in = 18, words = "BAD")
    static void onFromNoPlaceIsBad(Probe x) {
        for (int k : outside(PLACES)) {
            x.refused(BAD, "on", k);
        }
        x.build("x0g10g10");
        x.due(0, "keep", 0);
        x.due(0, "keep", 2);
        for (int k : outside(PLACES)) {
            x.refused(BAD, "on", k);
        }
        x.due(0, "on", 0);
        x.due(0, "on", 2);
    }

    @Says(in = 18, words = "NOTHING")
    static void onFromAnEmptyPlaceIsNothing(Probe x) {
        for (int k = 0; k < PLACES; k++) {
            x.found(NOTHING, "on", k);
        }
        x.build("x0g10g10");
        x.due(0, "keep", 1);
        x.loaves(1);
        x.found(NOTHING, "on", 0);
        x.found(NOTHING, "on", 2);
        x.due(0, "on", 1);
        x.due(2, "tower", 0);
        x.found(NOTHING, "on", 1);
    }

    @Says(in = 18, words = "BAD; NOTHING")
    static void onIsBadAheadOfNothing(Probe x) {
        x.refused(BAD, "on", 3);
        x.found(NOTHING, "on", 2);
        x.refused(BAD, "on", -1);
        x.found(NOTHING, "on", 0);
    }

    @Says(in = 18, words = "The TOWER is as it was kept: how many DEEDS")
    static void fullTowerIsFullAgain(Probe x) {
        x.build("x0o3g10g10");
        x.loaves(9);
        x.goes(31, 0, 1);
        x.due(DEEDS, "keep", 2);
        x.due(DEEDS, "undo", 0);
        x.due(DEEDS, "on", 2);
        x.refused(FULL, "go", 0, 1, 0, 0);
        x.refused(STATE, "loaf");
        x.counts(4, 3);
        x.due(1, "undo", 39);
        x.counts(4, 0);
        x.due(30, "undo", 9);
        x.counts(3, 9);
        x.due(9, "undo", 0);
        x.counts(3, 0);
        x.due(DEEDS, "on", 2);
        x.counts(3, 9);
    }

    @Says(in = 18, words = "The TOWER is as it was kept")
    static void shorterTowerBehindALongerOneHasNoneOfItsDeeds(Probe x) {
        x.build("x0g10g10");
        x.due(0, "keep", 0);
        x.loaves(5);
        x.due(5, "keep", 1);
        x.due(0, "on", 0);
        x.counts(2, 0);
        x.refused(BAD, "undo", 1);
        x.goes(2, 0, 1);
        x.due(0, "undo", 2);
        x.due(5, "on", 1);
        x.counts(3, 5);
        x.due(2, "undo", 3);
        x.counts(3, 3);
    }

    @Says(in = 18, words = "The TOWER is as it was kept")
    static void stonesAndStepsOfEachDeedComeBack(Probe x) {
        x.build("x9o4o9g10g12");
        x.due(2, "go", 0, 1, 1, 0);
        x.due(2, "go", 1, 0, 0, 0);
        x.due(7, "go", 0, 1, 2, 0);
        x.due(3, "keep", 0);
        x.due(3, "undo", 0);
        x.due(6, "go", 1, 0, 1, 0);
        x.due(1, "loaf");
        x.due(6, "go", 0, 1, 0, 1);
        x.due(3, "on", 0);
        int[][] stonesAndSteps = {{0, 0}, {1, 2}, {1, 4}, {3, 11}};
        for (int n = 3; n >= 0; n--) {
            x.due(n < 3 ? 1 : 0, "undo", n);
            x.counts(5, stonesAndSteps[n][0]);
            x.counts(7, stonesAndSteps[n][1]);
            x.counts(3, 0);
        }
    }

    private DeedEdgesTests() {
    }
}
