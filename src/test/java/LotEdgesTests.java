/** The edges of turns, chances and lots: promises 32 to 35, each by itself. */
final class LotEdgesTests extends Edges {
    private static final int DEEDS = 40, LAST_SEED = 2147483646;

    public static void main(String[] args) {
        run(LotEdgesTests.class);
    }

    // ---- ahead of the promises

    @Says(in = 0, words = "a number comes from the one ahead by 48271 times it modulo 2147483647, the first from a seed")
    static void numbersComeFromTheOnesAhead(Probe x) {
        // 48271: 1 and 0 GO; 182605794, 1291394886: a LOAF each; 1914720637, 2078669041: 1 and 1, nothing
        x.build("x0g10g10");
        x.due(2, "lots", 5, 1);
        x.counts(2, 5);
        x.counts(3, 2);
        x.counts(4, 3);
        x.due(2, "lots", 1, 48271);
        x.counts(3, 3);
        x.due(2, "lots", 1, 182605794);
        x.counts(3, 4);
        x.due(2, "lots", 1, 1291394886);
        x.counts(3, 4);
        x.counts(2, 8);
    }

    @Says(in = 0, words = "modulo 2147483647, the first from a seed (1 .. 2147483646)")
    static void lastSeedWrapsRoundTheModulo(Probe x) {
        // 2147483646 * 48271 is 2147435376 modulo 2147483647: by 8 it is 268429422, modulo 4 that is 2: 0 and 1 GO
        x.build("x0g10g10");
        x.due(2, "lots", 1, LAST_SEED);
        x.counts(3, 0);
        // the next one is 2147483647 - 182605794: by 8 it is 245609731, modulo 4 that is 3: 1 and 0 GO back
        x.due(1, "undo", 0);
        x.due(0, "lots", 2, LAST_SEED);
        x.counts(3, 0);
        x.due(1, "undo", 1);
        x.counts(4, 3);
    }

    // ---- 32 send

    @Says(in = 32, words = "BAD")
    static void sendOfNoTimesIsBad(Probe x) {
        x.build("x0g10g10");
        x.leaves(0, "send", 0);
        x.leaves(0, "send", 2);
        for (int n : outside(3)) {
            x.refused(BAD, "send", n);
        }
    }

    @Says(in = 32, words = "STATE: no PEOPLE")
    static void sendOfNobodyIsState(Probe x) {
        for (int n = 0; n <= 2; n++) {
            x.refused(STATE, "send", n);
        }
    }

    @Says(in = 32, words = "BAD; STATE: no PEOPLE")
    static void sendIsBadAheadOfState(Probe x) {
        for (int n : outside(3)) {
            x.refused(BAD, "send", n);
        }
    }

    @Says(in = 32, words = "(or none), n (0 .. 2) times each: how many are at the TOP then")
    static void sendOfNoneOnceAndTwice(Probe x) {
        x.build("x0n05g10g10g11g11");
        x.due(0, "go", 0, 1, 0, 0);
        x.due(1, "loaf");
        // now 0 COUNTS 11; who is up can't come down as a pair
        x.leaves(2, "send", 0);
        x.leaves(2, "send", 1);
        x.leaves(2, "send", 2);
        x.due(1, "undo", 1);
        x.leaves(2, "send", 0);
        x.leaves(2, "send", 1);
        x.leaves(2, "send", 2);
    }

    @Says(in = 32, words = "the first one wanting many, the other one few")
    static void sendLetsTheSecondOneHaveTheLastTurn(Probe x) {
        x.build("x0g10g10g20g20g30g30");
        x.leaves(0, "send", 1);
        x.leaves(0, "send", 2);
        x.due(0, "go", 0, 1, 0, 0);
        x.leaves(2, "send", 1);
        x.due(0, "go", 2, 3, 0, 0);
        x.leaves(4, "send", 1);
        x.due(0, "go", 4, 5, 0, 0);
        x.leaves(4, "send", 1);
        x.leaves(4, "send", 2);
        x.leaves(6, "send", 0);
    }

    @Says(in = 32, words = "let a pair GO with no STONES")
    static void sendDoesWithoutStones(Probe x) {
        x.build("x0o5g10g15g20g20");
        x.due(0, "go", 2, 3, 0, 0);
        x.leaves(0, "send", 1);
        x.due(0, "go", 0, 1, 1, 0);
        x.leaves(2, "send", 1);
        x.counts(4, 15);
    }

    @Says(in = 32, words = "By turns two let a pair GO")
    static void sendKnowsThePairsOfTheFirstAndOfTheLast(Probe x) {
        x.build("x0g10g10g20g30g40g50");
        x.due(0, "go", 0, 1, 0, 0);
        x.leaves(0, "send", 1);
        x.leaves(0, "send", 2);
        Probe last = x.another();
        last.build("x0g10g20g30g40g50g50");
        last.due(0, "go", 4, 5, 0, 0);
        last.leaves(0, "send", 1);
    }

    @Says(in = 32, words = "let a pair GO with no STONES (or none)")
    static void sendLetsNobodyGoWhoCannot(Probe x) {
        x.build("x0n05g10");
        x.due(0, "go", 0, 1, 0, 0);
        x.leaves(0, "send", 1);
        x.due(1, "loaf");
        x.leaves(2, "send", 1);
        x.leaves(2, "send", 2);
        Probe limit = x.another();
        limit.build("x1n05g10");
        limit.due(0, "go", 0, 1, 0, 0);
        limit.loaves(1);
        limit.leaves(0, "send", 1);
        limit.due(2, "loaf");
        limit.leaves(2, "send", 1);
    }

    // ---- 33 odds, 34 mid

    private static void badOfNobodyOrOneself(Probe x, String call) {
        x.refused(BAD, call, 0, 1, 6);
        x.build("x0g10g10g11");
        for (int i : outside(3)) {
            x.refused(BAD, call, i, 0, 6);
            x.refused(BAD, call, 0, i, 6);
        }
        for (int i = 0; i < 3; i++) {
            x.refused(BAD, call, i, i, 6);
        }
        x.due(1, call, 2, 0, 6);
        x.due(1, call, 0, 2, 6);
    }

    private static void badOfNoTwelfths(Probe x, String call) {
        x.build("x0o5g10g15");
        x.due(1, call, 0, 1, 0);
        x.due(1, call, 0, 1, 12);
        for (int p : outside(13)) {
            x.refused(BAD, call, 0, 1, p);
        }
    }

    private static void stateOfTwoNotAtOneEnd(Probe x, String call) {
        x.build("x0g10g10g10");
        x.due(0, "go", 0, 1, 0, 0);
        x.refused(STATE, call, 0, 2, 6);
        x.refused(STATE, call, 2, 1, 6);
        x.refused(BAD, call, 0, 2, 13);
        x.refused(BAD, call, 0, 2, -1);
        x.due(1, call, 0, 1, 6);
    }

    @Says(in = 33, words = "BAD: also the same")
    static void oddsOfNobodyOrOneselfAreBad(Probe x) {
        badOfNobodyOrOneself(x, "odds");
    }

    @Says(in = 33, words = "p (0 .. 12) of 12")
    static void oddsByNoTwelfthsAreBad(Probe x) {
        badOfNoTwelfths(x, "odds");
    }

    @Says(in = 33, words = "STATE: not at one end")
    static void oddsOfTwoNotAtOneEndAreState(Probe x) {
        stateOfTwoNotAtOneEnd(x, "odds");
    }

    @Says(in = 33, words = "if each STONE at their end is lost by p (0 .. 12) of 12, each by itself: 1")
    static void oddsFromNoneLostToAllLost(Probe x) {
        x.build("x0o1o2o3o4g10g20g11g10");
        x.shares(1, 1, "odds", 0, 1, 0);
        x.shares(0, 1, "odds", 0, 1, 12);
        x.shares(2401, 20736, "odds", 0, 1, 5);
        x.shares(1, 20736, "odds", 0, 1, 11);
        x.shares(14641, 20736, "odds", 0, 1, 1);
        x.shares(1, 1, "odds", 0, 3, 12);
        x.shares(1, 1, "odds", 0, 3, 5);
    }

    @Says(in = 33, words = "Chances that two CAN go")
    static void oddsEndAtTheLimit(Probe x) {
        for (int limit : new int[] {0, 3, 9}) {
            Probe one = x.another();
            one.build("x" + limit + "g50g" + (50 + limit) + "g" + (51 + limit));
            one.shares(1, 1, "odds", 0, 1, 6);
            one.shares(0, 1, "odds", 0, 2, 6);
            one.shares(limit, 1, "mid", 0, 1, 6);
            one.shares(limit + 1, 1, "mid", 2, 0, 6);
        }
    }

    @Says(in = 33, words = "each STONE at their end is lost")
    static void oddsLookAtTheStonesThatAreThere(Probe x) {
        x.build("x0o5o5g10g15g10g15g20");
        x.shares(3, 4, "odds", 0, 1, 6);
        x.due(0, "go", 2, 3, 1, 0);
        x.shares(1, 2, "odds", 0, 1, 6);
        x.shares(1, 2, "odds", 3, 2, 6);
        x.due(0, "go", 0, 1, 2, 0);
        x.shares(3, 4, "odds", 0, 1, 6);
        x.due(0, "go", 2, 3, 1, 0);
        x.due(0, "go", 0, 1, 2, 0);
        x.shares(9, 16, "odds", 0, 4, 3);
    }

    @Says(in = 34, words = "BAD")
    static void midOfNobodyOrOneselfIsBad(Probe x) {
        badOfNobodyOrOneself(x, "mid");
    }

    @Says(in = 34, words = "BAD")
    static void midByNoTwelfthsIsBad(Probe x) {
        badOfNoTwelfths(x, "mid");
    }

    @Says(in = 34, words = "STATE")
    static void midOfTwoNotAtOneEndIsState(Probe x) {
        stateOfTwoNotAtOneEnd(x, "mid");
    }

    @Says(in = 34, words = "The mean of the least by which they would SINK then: 1")
    static void midFromNoneLostToAllLost(Probe x) {
        x.build("x0o1o2o3o4g10g20n99b01");
        x.shares(0, 1, "mid", 0, 1, 0);
        x.shares(10, 1, "mid", 0, 1, 12);
        x.shares(94, 1, "mid", 2, 3, 0);
        x.shares(104, 1, "mid", 2, 3, 12);
        x.shares(99, 1, "mid", 3, 2, 6);
        x.shares(307, 3, "mid", 2, 3, 10);
        x.due(1, "loaf");
        x.shares(105, 1, "mid", 2, 3, 12);
    }

    @Says(in = 0, words = "Chances, means are told by upper(), lower(), in lowest terms, the lower number above 0 (0 by 1)")
    static void sharesAreInLowestTerms(Probe x) {
        x.build("x0o5g10g15g10");
        int[][] lost = {{0, 1}, {1, 12}, {1, 6}, {1, 4}, {1, 3}, {5, 12}, {1, 2}, {7, 12}, {2, 3}, {3, 4}, {5, 6}, {11, 12}, {1, 1}};
        for (int p = 0; p <= 12; p++) {
            x.shares(lost[12 - p][0], lost[12 - p][1], "odds", 0, 1, p);
            x.shares(p == 0 ? 0 : 5 * lost[p][0], lost[p][1], "mid", 0, 1, p);
            x.shares(0, 1, "mid", 0, 2, p);
        }
    }

    // ---- 35 lots

    @Says(in = 35, words = "BAD")
    static void lotsOfNoneOrTwentyOneAreBad(Probe x) {
        x.build("x0g10g10");
        for (int n : new int[] {0, -1, 21, MIN, MAX}) {
            x.refused(BAD, "lots", n, 1);
        }
        x.due(2, "lots", 1, 1);
        x.counts(2, 1);
        x.holds("twenty are taken", x.ask("lots", 20, 1) >= 0);
        x.counts(2, 21);
    }

    @Says(in = 35, words = "n (1 .. 20) DEEDS truly by LOTS of a seed")
    static void lotsOfASeedThatIsNoneAreBad(Probe x) {
        x.build("x0g10g10");
        for (int seed : new int[] {0, -1, MIN, MAX}) {
            x.refused(BAD, "lots", 1, seed);
        }
        x.due(2, "lots", 1, 1);
        x.due(0, "lots", 1, LAST_SEED);
        x.counts(2, 2);
    }

    @Says(in = 35, words = "STATE: no PEOPLE")
    static void lotsForNobodyAreState(Probe x) {
        x.refused(STATE, "lots", 1, 1);
        x.refused(STATE, "lots", 20, LAST_SEED);
    }

    @Says(in = 35, words = "BAD; STATE: no PEOPLE")
    static void lotsAreBadAheadOfState(Probe x) {
        x.refused(BAD, "lots", 0, 1);
        x.refused(BAD, "lots", 21, 1);
        x.refused(BAD, "lots", 1, 0);
        x.refused(BAD, "lots", 1, MAX);
    }

    @Says(in = 35, words = "FULL: with n more there would be more than 40 DEEDS")
    static void lotsUpToFortyDeedsAreDone(Probe x) {
        x.build("x0g10g10");
        x.holds("twenty", x.ask("lots", 20, 7) >= 0);
        x.holds("one more", x.ask("lots", 1, 7) >= 0);
        x.refused(FULL, "lots", 20, 7);
        x.holds("nineteen more", x.ask("lots", 19, 7) >= 0);
        x.counts(2, DEEDS);
        x.refused(FULL, "lots", 1, 7);
        x.due(1, "undo", 39);
        x.refused(FULL, "lots", 2, 7);
        x.holds("one more", x.ask("lots", 1, 7) >= 0);
        x.counts(2, DEEDS);
        x.due(40, "undo", 0);
        x.holds("twenty", x.ask("lots", 20, 7) >= 0);
        x.holds("and twenty", x.ask("lots", 20, 7) >= 0);
        x.counts(2, DEEDS);
    }

    @Says(in = 35, words = "(FULL last.)")
    static void lotsAreBadAheadOfFull(Probe x) {
        x.build("x0g10g10");
        x.goes(DEEDS, 0, 1);
        x.refused(FULL, "lots", 1, 1);
        x.refused(BAD, "lots", 0, 1);
        x.refused(BAD, "lots", 21, 1);
        x.refused(BAD, "lots", 1, 0);
        x.refused(BAD, "lots", 1, -1);
    }

    @Says(in = 35, words = "0 a LOAF (if 9 are eaten: nothing, but it is a DEED)")
    static void tenthLoafByLotIsNothingButADeed(Probe x) {
        // 32 * 48271 = 1544672: by 8 it is 193084, modulo 4 that is 0
        x.build("x0g10g10");
        x.loaves(8);
        x.due(0, "lots", 1, 32);
        x.counts(3, 9);
        x.due(0, "lots", 1, 32);
        x.counts(3, 9);
        x.counts(2, 10);
        x.due(1, "undo", 9);
        x.counts(3, 9);
        x.due(1, "undo", 8);
        x.counts(3, 8);
    }

    @Says(in = 35, words = "it by 8, cut, modulo 4")
    static void lotsAreALoafJustByModuloFour(Probe x) {
        // seeds 1 to 8 by 48271, by 8 and cut: 6033, 12067, 18101, 24135, 30169, 36203, 42237, 48271: none by 4
        x.build("x0g10g20");
        for (int seed = 1; seed <= 8; seed++) {
            x.due(0, "lots", 1, seed);
        }
        x.counts(3, 0);
        // seeds 32 and 33: 193084 by 4 goes up, 199117 does not
        x.due(0, "lots", 1, 33);
        x.counts(3, 0);
        x.due(0, "lots", 1, 32);
        x.counts(3, 1);
        x.counts(2, 10);
        x.counts(4, 0);
    }

    @Says(in = 35, words = "else one of PEOPLE it modulo how many there are and another one it by 64, cut, modulo how many there are")
    static void lotsTellWhoGoes(Probe x) {
        // 48271 by 64 is 754 and some; 3 * 48271 = 144813 by 64 nearly 2263: cut it is 2262; 2147435376: 33553677
        int[][] lots = {{6, 1, 1, 4}, {5, 1, 1, 4}, {4, 1, 3, 2}, {2, 1, 1, 0}, {6, 3, 3, 0}, {5, 3, 3, 2},
            {6, LAST_SEED, 0, 3}};
        for (int[] lot : lots) {
            Probe one = x.another();
            one.build("x0" + "g10".repeat(lot[0]));
            one.due(2, "lots", 1, lot[1]);
            one.counts(4, 1 << lot[2] | 1 << lot[3]);
            one.counts(2, 1);
        }
    }

    @Says(in = 35, words = "if they are unlike, at one end, and CAN; else nothing (a DEED, too)")
    static void lotsThatFitNobodyAreDeedsToo(Probe x) {
        // 48271 modulo 3 is 1, by 64 it is 754, modulo 3 that is 1: one alone
        x.build("x9g10g10g10");
        x.due(0, "lots", 1, 1);
        x.counts(2, 1);
        x.counts(7, 0);
        // of four: 48271 modulo 4 is 3, 754 modulo 4 is 2
        Probe apart = x.another();
        apart.build("x0g10g10g10g10");
        apart.due(0, "go", 0, 3, 0, 0);
        apart.due(2, "lots", 1, 1);
        apart.counts(4, 9);
        apart.counts(2, 2);
        Probe cannot = x.another();
        cannot.build("x3o5g10g10g10g19");
        cannot.due(0, "lots", 1, 1);
        cannot.counts(2, 1);
        Probe can = x.another();
        can.build("x3o5g10g10g10g18");
        can.due(2, "lots", 1, 1);
        can.counts(4, 12);
        can.counts(5, 1);
        can.counts(7, 3);
    }

    @Says(in = 35, words = "GO with the STONES that best() tells")
    static void lotsTakeTheFirstBestStones(Probe x) {
        x.build("x9o4o4o9g14g10");
        x.told(0, 16, "best", 1, 0);
        x.due(2, "lots", 1, 1);
        x.counts(5, 1);
        x.counts(7, 0);
        x.due(16, "asked");
        x.due(0, "lots", 1, 1);
        x.counts(5, 0);
        Probe both = x.another();
        both.build("x9o4o4o9g18g10");
        both.told(0, 48, "best", 1, 0);
        both.due(2, "lots", 1, 1);
        both.counts(5, 3);
    }

    @Says(in = 35, words = "GO with the STONES that best() tells")
    static void lotsTakeNoStonesThatAreNotTold(Probe x) {
        // 48271 modulo 4 is 3, by 64 it is 754, modulo 4 that is 2: 3 and 2 GO
        x.build("x9o1o2o3o4g10g10g10g24");
        x.due(1, "go", 0, 1, 1, 0);
        x.told(5, 14, "best", 3, 2);
        x.due(4, "lots", 1, 1);
        x.counts(5, 15);
        x.counts(7, 6);
        Probe first = x.another();
        first.build("x9o1o2o3o4g10g10g25g10");
        first.told(5, 240, "best", 3, 2);
        first.due(2, "lots", 1, 1);
        first.counts(5, 15);
        first.counts(7, 5);
    }

    @Says(in = 35, words = "0 a LOAF (if 9 are eaten: nothing, but it is a DEED)")
    static void lotsOfLoavesAndOfNothingMoveNothing(Probe x) {
        x.build("x1o1o1g10g20");
        x.due(0, "lots", 1, 32);
        x.due(0, "lots", 1, 1);
        x.counts(2, 2);
        x.counts(3, 1);
        x.counts(4, 0);
        x.counts(5, 0);
        x.counts(7, 0);
    }

    private LotEdgesTests() {
    }
}
