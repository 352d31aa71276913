/** The edges of who goes with whom, and of the GOES to come: promises 19 to 28, each by itself. */
final class PairEdgesTests extends Edges {
    private static final int LOAVES = 9;

    public static void main(String[] args) {
        run(PairEdgesTests.class);
    }

    /** A call about two that is refused for each number that is nobody's, and for one with oneself. */
    private static void refusesPairs(Probe x, int people, String name, int... more) {
        for (int i : outside(people)) {
            x.refused(BAD, name, with(i, 0, more));
            x.refused(BAD, name, with(0, i, more));
        }
        x.refused(BAD, name, with(0, 0, more));
        x.refused(BAD, name, with(people - 1, people - 1, more));
    }

    private static int[] with(int i, int j, int... more) {
        int[] all = new int[more.length + 2];
        all[0] = i;
        all[1] = j;
        System.arraycopy(more, 0, all, 2, more.length);
        return all;
    }

    // ---- 19 sink

    @Says(in = 19, words = "BAD")
    static void sinkOfNobodyIsBad(Probe x) {
        x.refused(BAD, "sink", 0, 1, 0, 0);
        x.build("x9g10g10g11");
        refusesPairs(x, 3, "sink", 0, 0);
        x.leaves(1, "sink", 2, 0, 0, 0);
        x.leaves(1, "sink", 0, 2, 0, 0);
    }

    @Says(in = 19, words = "also the same")
    static void sinkOfOneWithOneselfIsBad(Probe x) {
        x.build("x9o1g10g10g10g10g10g10");
        for (int i = 0; i < 6; i++) {
            x.refused(BAD, "sink", i, i, 0, 0);
        }
        x.refused(BAD, "sink", 1, 1, 1, 0);
    }

    @Says(in = 19, words = "sets that are none")
    static void sinkWithSetsThatAreNoneIsBad(Probe x) {
        String[] stones = {"", "o1", "o1o2", "o1o2o3", "o1o2o3o4"};
        int[] weight = {0, 1, 3, 6, 10};
        for (int many = 0; many <= 4; many++) {
            Probe one = x.another();
            one.build("x0" + stones[many] + "g10g10");
            for (int set : outside(1 << many)) {
                one.refused(BAD, "sink", 0, 1, set, 0);
                one.refused(BAD, "sink", 0, 1, 0, set);
            }
            one.leaves(weight[many], "sink", 0, 1, (1 << many) - 1, 0);
            one.leaves(weight[many], "sink", 0, 1, 0, (1 << many) - 1);
        }
    }

    @Says(in = 19, words = "or share a STONE")
    static void sinkWithSetsThatShareAStoneIsBad(Probe x) {
        x.build("x0o1o2o3o4g10g10");
        for (int s = 0; s < 4; s++) {
            x.refused(BAD, "sink", 0, 1, 1 << s, 1 << s);
            x.refused(BAD, "sink", 0, 1, 1 << s, 15);
        }
        x.leaves(0, "sink", 0, 1, 9, 6);
        x.leaves(8, "sink", 0, 1, 14, 1);
    }

    @Says(in = 19, words = "By how much the stairs would SINK (wherever all are)")
    static void sinkLooksAtNoEndAndAtNoLimit(Probe x) {
        x.build("x0o4o9g10g10n99b01");
        x.due(0, "go", 0, 1, 0, 0);
        x.loaves(LOAVES);
        x.leaves(10, "sink", 0, 3, 0, 0);
        x.leaves(126, "sink", 2, 3, 3, 0);
        x.leaves(13, "sink", 0, 1, 0, 3);
        x.counts(2, 10);
    }

    // ---- 20 best

    @Says(in = 20, words = "BAD: also the same")
    static void bestOfNobodyOrOneselfIsBad(Probe x) {
        x.refused(BAD, "best", 0, 1);
        x.build("x0g10g10g10g10");
        refusesPairs(x, 4, "best");
        x.told(0, 0, "best", 3, 0);
        x.told(0, 0, "best", 0, 3);
    }

    @Says(in = 20, words = "STATE: not at one end")
    static void bestOfTwoNotAtOneEndIsState(Probe x) {
        x.build("x0o1g10g10g10g11");
        x.told(0, 16, "best", 0, 3);
        x.due(0, "go", 0, 1, 0, 0);
        x.refused(STATE, "best", 0, 2);
        x.refused(STATE, "best", 2, 0);
        x.refused(STATE, "best", 3, 1);
        x.told(0, 0, "best", 0, 1);
        x.told(0, 16, "best", 2, 3);
        x.refused(BAD, "best", 0, 4);
    }

    @Says(in = 20, words = "of like ones the first number")
    static void bestTellsTheFirstOfLikeSets(Probe x) {
        Probe one = x.another();
        one.build("x0o3o3o3o3g10g13g10g16g22t40");
        one.aside(0, 0, "best", 0, 2);
        one.aside(0, 16, "best", 0, 1);
        one.aside(0, 1, "best", 1, 0);
        one.aside(0, 48, "best", 0, 3);
        one.aside(0, 3, "best", 3, 0);
        one.aside(0, 240, "best", 0, 4);
        one.aside(0, 15, "best", 4, 0);
        Probe twins = x.another();
        twins.build("x0o1o2t40t41t43g42");
        twins.aside(0, 0, "best", 0, 1);
        twins.aside(0, 32, "best", 0, 2);
        twins.aside(0, 0, "best", 1, 0);
        twins.aside(0, 1, "best", 2, 1);
    }

    @Says(in = 20, words = "The least by which they SINK with STONES at their end; with which by asked() (16 times the set of the first, and the other one's")
    static void bestIsToldAboveTheLimitAndWithNoStonesThere(Probe x) {
        x.build("x0o9o9o9o9g10g10b01n99");
        x.aside(68, 15, "best", 3, 2);
        x.aside(68, 240, "best", 2, 3);
        x.due(0, "go", 0, 1, 1, 2);
        x.aside(86, 12, "best", 3, 2);
        x.aside(86, 192, "best", 2, 3);
        x.aside(0, 0, "best", 0, 1);
    }

    // ---- 21 pairs

    @Says(in = 21, words = "the first by asked() (6 times the lesser, and the other; NONE)")
    static void pairsOfNobodyAndOfNoneTellNone(Probe x) {
        x.aside(0, NONE, "pairs");
        x.build("x0g10g20g30");
        x.aside(0, NONE, "pairs");
    }

    @Says(in = 21, words = "the first by asked() (6 times the lesser, and the other; NONE)")
    static void pairsTellTheFirstAndTheLastPair(Probe x) {
        x.build("x0g10g10g20g30g40g50");
        x.aside(1, 1, "pairs");
        Probe last = x.another();
        last.build("x0g10g20g30g40g50g50");
        last.aside(1, 29, "pairs");
        Probe two = x.another();
        two.build("x0g10g20");
        two.told(0, NONE, "pairs");
        two.build("x0g10g10");
        two.told(1, 1, "pairs");
    }

    @Says(in = 21, words = "How many pairs CAN go now, each for itself")
    static void pairsOfAllAreFifteen(Probe x) {
        x.build("x5o4g10g11g12g13g14g15");
        x.aside(15, 1, "pairs");
        x.due(1, "go", 0, 1, 0, 0);
        x.aside(7, 1, "pairs");
        x.due(3, "go", 2, 5, 0, 0);
        x.aside(7, 1, "pairs");
    }

    @Says(in = 21, words = "How many pairs CAN go now, each for itself")
    static void pairsMayAllNeedTheSameStone(Probe x) {
        x.build("x0o5g10g15g30g35g50g55");
        x.aside(3, 1, "pairs");
        x.due(0, "go", 0, 1, 1, 0);
        x.aside(1, 1, "pairs");
    }

    // ---- 22 match

    @Says(in = 22, words = "STATE: no PEOPLE")
    static void matchOfNobodyIsState(Probe x) {
        x.refused(STATE, "match");
        x.build("x0g10g11");
        x.aside(0, 0, "match");
    }

    @Says(in = 22, words = "The most pairs (nobody in two of them)")
    static void matchIsOfNoneToThree(Probe x) {
        x.build("x0g10g20g30g40g50g60");
        x.aside(0, 0, "match");
        x.build("x0g10g10g10g20g30g40");
        x.aside(1, 3, "match");
        x.build("x0g10g10g10g10g10g40");
        x.aside(2, 15, "match");
        x.build("x0g10g10g10g10g10g10");
        x.aside(3, 63, "match");
        x.build("x0g10g10g10");
        x.aside(1, 3, "match");
    }

    @Says(in = 22, words = "each STONE with one at most")
    static void matchLendsEachStoneOnce(Probe x) {
        x.build("x0o5g10g15g30g35g50g55");
        x.aside(1, 3, "match");
        x.build("x0o5o5g10g15g30g35g50g55");
        x.aside(2, 15, "match");
        x.build("x0o5o5o5g10g15g30g35g50g55");
        x.aside(3, 63, "match");
        x.build("x0o2o3g10g15g30g35g50g52");
        x.aside(1, 3, "match");
        x.build("x0o2o3o5g10g15g30g35g50g52");
        x.aside(2, 15, "match");
    }

    @Says(in = 22, words = "a pair at one end with STONES that are there")
    static void matchLooksAtBothEnds(Probe x) {
        x.build("x0o5o5g10g15g30g35g10g30");
        x.due(0, "go", 0, 1, 1, 0);
        x.aside(2, 0b001111, "match");
        x.due(0, "go", 2, 3, 2, 0);
        x.aside(2, 0b001111, "match");
        x.due(0, "go", 0, 1, 1, 0);
        x.due(0, "go", 0, 4, 0, 0);
        x.aside(2, 0b011101, "match");
        Probe one = x.another();
        one.build("x0o5g10g15g10g15");
        one.due(0, "go", 0, 1, 1, 0);
        one.aside(1, 3, "match");
    }

    @Says(in = 22, words = "each STONE with one at most")
    static void matchTriesAllPairingsOfTheSamePeople(Probe x) {
        x.build("x0o5g10g15g10g15");
        x.aside(2, 15, "match");
        x.build("x0o5g10g10g15g15");
        x.aside(2, 15, "match");
        x.build("x0o5g10g15g15g10");
        x.aside(2, 15, "match");
    }

    @Says(in = 22, words = "each STONE with one at most, a pair at one end with STONES that are there")
    static void matchLendsStonesToBothOfAPair(Probe x) {
        x.build("x0o5o8g10g13g30g33");
        x.aside(1, 3, "match");
        x.aside(1, 1, "up", 3);
        x.aside(1, 15, "up", 12);
        x.aside(2, 1, "pairs");
    }

    @Says(in = 22, words = "who is in these by asked() (bits; of like many the least number)")
    static void matchTellsTheLeastNumberOfLikeMany(Probe x) {
        x.build("x0g10g20g30g20g10");
        x.aside(2, 0b11011, "match");
        x.build("x0g10g20g20g20g10g10");
        x.aside(2, 0b010111, "match");
        x.build("x1g10g11g12g13g14");
        x.aside(2, 0b01111, "match");
        x.build("x0o5g40g10g45g15g10g99");
        x.aside(2, 0b010111, "match");
    }

    // ---- 23 waits

    @Says(in = 23, words = "BAD")
    static void waitsOfNobodyIsBad(Probe x) {
        x.refused(BAD, "waits", 0);
        x.build("x0g10g10g12");
        for (int i : outside(3)) {
            x.refused(BAD, "waits", i);
        }
        x.leaves(12, "waits", 2);
    }

    @Says(in = 23, words = "NONE: of none")
    static void waitsOfNoneAboveNinetyNine(Probe x) {
        x.build("x0l94l95n90g99c01b03");
        x.leaves(99, "waits", 0);
        x.none("waits", 1);
        x.leaves(95, "waits", 2);
        x.leaves(99, "waits", 3);
        x.loaves(4);
        x.leaves(99, "waits", 2);
        x.due(5, "loaf");
        x.none("waits", 2);
        Probe one = x.another();
        one.build("x9l99n99");
        one.leaves(95, "waits", 0);
        one.loaves(4);
        one.leaves(99, "waits", 1);
        one.due(5, "loaf");
        one.none("waits", 1);
    }

    @Says(in = 23, words = "NONE: of none")
    static void waitsOfNoneBelowOne(Probe x) {
        x.build("x0g01c02c01b03b04t01");
        x.leaves(1, "waits", 0);
        x.leaves(1, "waits", 1);
        x.none("waits", 2);
        x.none("waits", 3);
        x.leaves(1, "waits", 4);
        x.leaves(1, "waits", 5);
        Probe one = x.another();
        one.build("x1c01b03");
        one.leaves(1, "waits", 0);
        one.leaves(1, "waits", 1);
    }

    @Says(in = 23, words = "The least POUNDS (1 .. 99) of a GUEST with whom one could go now, with STONES at its end")
    static void waitsWithTheStonesAtItsEnd(Probe x) {
        x.build("x0o9o2g40t40c01g38");
        x.leaves(29, "waits", 0);
        x.leaves(29, "waits", 1);
        x.leaves(2, "waits", 2);
        x.due(0, "go", 0, 3, 0, 2);
        x.leaves(38, "waits", 0);
        x.leaves(36, "waits", 3);
        x.leaves(31, "waits", 1);
        x.leaves(9, "waits", 2);
    }

    @Says(in = 23, words = "of a GUEST with whom one could go now")
    static void twinWaitsForAGuestNotForATwin(Probe x) {
        x.build("x3t40g40");
        x.leaves(37, "waits", 0);
        x.leaves(37, "waits", 1);
    }

    // ---- 24 worth

    @Says(in = 24, words = "STATE: no PEOPLE")
    static void worthForNobodyIsState(Probe x) {
        x.refused(STATE, "worth");
    }

    @Says(in = 24, words = "NONE: no STONES")
    static void worthWithNoStonesIsNone(Probe x) {
        x.build("x0g10g10");
        x.told(1, 10, "one", 0, 1);
        x.none("worth");
    }

    @Says(in = 24, words = "The STONE without which fewest pairs CAN go now (the first)")
    static void worthIsTheFirstOfLikeStones(Probe x) {
        x.build("x0o9g10g10");
        x.aside(0, 0, "worth");
        x.build("x0o7o7o7o7g10g17");
        x.aside(0, 0, "worth");
        x.build("x0o9o8g10g27g50g51");
        x.aside(0, 2, "worth");
        x.build("x0o9o9o9o5g10g15");
        x.aside(3, 1, "worth");
        x.build("x0o9o5o5g10g24");
        x.aside(0, 1, "worth");
        x.build("x0o8o5o9g10g24g30g35");
        x.aside(1, 3, "worth");
    }

    @Says(in = 24, words = "how many fewer by asked()")
    static void worthOfAStoneThatAllNeed(Probe x) {
        x.build("x0o5g10g15g10g15g10g15");
        x.aside(0, 9, "worth");
        x.due(0, "go", 0, 1, 1, 0);
        x.aside(0, 1, "worth");
            }

    // ---- 25 loaves

    @Says(in = 25, words = "BAD: also the same")
    static void loavesForNobodyOrOneselfIsBad(Probe x) {
        x.refused(BAD, "loaves", 0, 1);
        x.build("x0n10g15g15");
        refusesPairs(x, 3, "loaves");
        x.leaves(0, "loaves", 2, 0);
        x.leaves(0, "loaves", 0, 2);
    }

    @Says(in = 25, words = "STATE: not at one end")
    static void loavesForTwoNotAtOneEndIsState(Probe x) {
        x.build("x0n10g15g16");
        x.due(0, "go", 0, 1, 0, 0);
        x.refused(STATE, "loaves", 0, 2);
        x.refused(STATE, "loaves", 2, 1);
        x.leaves(0, "loaves", 0, 1);
        x.refused(BAD, "loaves", 0, 3);
    }

    @Says(in = 25, words = "NONE: by none")
    static void loavesByNoneWhenTenWouldBeNeeded(Probe x) {
        x.build("x0n10g24g25g14n10g15");
        x.leaves(9, "loaves", 0, 1);
        x.leaves(9, "loaves", 1, 0);
        x.none("loaves", 0, 2);
        x.none("loaves", 2, 0);
        x.none("loaves", 0, 3);
        x.leaves(0, "loaves", 0, 4);
        x.leaves(0, "loaves", 0, 5);
        x.none("loaves", 1, 2);
    }

    @Says(in = 25, words = "(0 .. 9, those that can be eaten)")
    static void loavesAreThoseThatCanBeEatenYet(Probe x) {
        x.build("x1n10g24g26");
        for (int eaten = 0; eaten <= 7; eaten++) {
            x.due(8 - eaten, "loaves", 0, 1);
            x.due(NONE, "loaves", 0, 2);
            x.due(eaten + 1, "loaf");
        }
        x.due(0, "loaves", 0, 1);
        x.due(9, "loaf");
        x.leaves(0, "loaves", 0, 1);
        x.none("loaves", 0, 2);
        Probe one = x.another();
        one.build("x0n10g24");
        one.loaves(8);
        one.leaves(1, "loaves", 0, 1);
        one.due(9, "loaf");
        one.leaves(0, "loaves", 0, 1);
    }

    @Says(in = 25, words = "under two with no STONES")
    static void loavesDoWithoutStones(Probe x) {
        x.build("x0o3n10g18g12");
        x.leaves(3, "loaves", 0, 1);
        x.none("loaves", 0, 2);
        x.told(0, 16, "best", 0, 1);
    }

    @Says(in = 25, words = "by which the stairs would SINK by the LIMIT at most")
    static void loavesMayMakeTooHeavy(Probe x) {
        x.build("x2n10g15g13g12");
        x.leaves(0, "loaves", 0, 1);
        x.leaves(0, "loaves", 0, 2);
        x.none("loaves", 0, 3);
        x.loaves(2);
        x.leaves(0, "loaves", 0, 1);
        x.none("loaves", 0, 2);
        x.due(3, "loaf");
        x.none("loaves", 0, 1);
    }

    // ---- 26 up

    @Says(in = 26, words = "BAD")
    static void upOfNoSetIsBad(Probe x) {
        x.refused(BAD, "up", 1);
        x.refused(BAD, "up", -1);
        x.build("x0g10g10g10");
        for (int set : outside(8)) {
            x.refused(BAD, "up", set);
        }
        x.refused(BAD, "up", 15);
        Probe six = x.another();
        six.build("x0g10g10g10g10g10g10");
        six.aside(3, 1, "up", 63);
        for (int set : outside(64)) {
            six.refused(BAD, "up", set);
        }
    }

    @Says(in = 26, words = "(NONE: none is needed)")
    static void upOfNoneNeedsNone(Probe x) {
        x.aside(0, NONE, "up", 0);
        x.build("x0g10g10g10");
        x.aside(0, NONE, "up", 0);
        x.due(0, "go", 0, 2, 0, 0);
        x.aside(0, NONE, "up", 0);
        x.aside(0, NONE, "up", 1);
        x.aside(0, NONE, "up", 5);
        x.aside(2, 2, "up", 2);
    }

    @Says(in = 26, words = "NONE: by none")
    static void upOfAllOfAnOddNumberIsByNone(Probe x) {
        x.build("x0g10g10g10");
        x.aside(1, 1, "up", 3);
        x.none("up", 7);
        Probe apart = x.another();
        apart.build("x0g10g11");
        apart.told(1, 11, "one", 1, 1);
        apart.none("up", 1);
        apart.none("up", 2);
        apart.none("up", 3);
        apart.aside(0, NONE, "up", 0);
    }

    @Says(in = 26, words = "the first GO of the first such row (6 times the lesser, and the other; by numbers of pairs)")
    static void upTellsTheFirstPairOfTheFirstRow(Probe x) {
        x.build("x0g10g10g10g10g10g10");
        x.aside(1, 1, "up", 1);
        x.aside(1, 1, "up", 2);
        x.aside(1, 2, "up", 4);
        x.aside(1, 5, "up", 32);
        x.aside(1, 29, "up", 48);
        x.aside(2, 1, "up", 0b110010);
        x.aside(2, 1, "up", 0b011001);
        x.aside(2, 3, "up", 0b111000);
        x.aside(3, 1, "up", 63);
        x.aside(3, 1, "up", 31);
    }

    @Says(in = 26, words = "The fewest GOES from now on by which all of a set of PEOPLE are at the TOP together (others, STONES anywhere)")
    static void upBorrowsAStoneThatComesDownAgain(Probe x) {
        x.build("x0o5g10g15g30g35g10g15");
        x.aside(3, 4, "up", 63);
        x.due(0, "go", 0, 1, 1, 0);
        x.aside(2, 1, "up", 0b001100);
        x.aside(4, 1, "up", 0b001111);
        x.aside(4, 1, "up", 63);
        x.counts(2, 1);
    }

    @Says(in = 26, words = "of a set of PEOPLE are at the TOP together")
    static void upOfTwoWhoAreUpInTurnOnlyIsByNone(Probe x) {
        x.build("x0o5g10g15g30g35");
        x.aside(1, 1, "up", 0b0011);
        x.aside(1, 15, "up", 0b1100);
        x.none("up", 0b0101);
        x.none("up", 0b1111);
    }

    @Says(in = 26, words = "(others, STONES anywhere); the first GO of the first such row")
    static void upLeavesStonesForThoseWhoComeLater(Probe x) {
        x.build("x0o5o5g10g10g30g35");
        x.aside(2, 1, "up", 15);
        x.build("x0o5o5g30g35g10g10");
        x.aside(2, 1, "up", 15);
        x.build("x0o5o5g30g40g10g15");
        x.aside(1, 1, "up", 3);
        x.none("up", 15);
    }

    @Says(in = 26, words = "(others, STONES anywhere)")
    static void upTakesStonesDownThatOnlyBalanceEachOther(Probe x) {
        x.build("x0o5o5g10g10g30g40");
        x.due(0, "go", 0, 1, 1, 2);
        x.counts(5, 3);
        x.aside(2, 1, "up", 12);
    }

    @Says(in = 26, words = "The fewest GOES from now on")
    static void upOfATowerForgetsTheOneAhead(Probe x) {
        x.build("x0g10g10");
        x.aside(1, 1, "up", 3);
        x.leaves(3, "ever");
        x.build("x0g10g11");
        x.told(1, 11, "one", 1, 1);
        x.none("up", 3);
        x.none("up", 2);
        x.leaves(0, "ever");
    }

    // ---- 27 down

    @Says(in = 27, words = "BAD")
    static void downOfNoSetIsBad(Probe x) {
        x.refused(BAD, "down", 1);
        x.refused(BAD, "down", -1);
        x.build("x0g10g10");
        for (int set : outside(4)) {
            x.refused(BAD, "down", set);
        }
        x.aside(0, NONE, "down", 3);
        Probe six = x.another();
        six.build("x0g10g10g10g10g10g10");
        six.aside(0, NONE, "down", 63);
        for (int set : outside(64)) {
            six.refused(BAD, "down", set);
        }
    }

    @Says(in = 27, words = "Likewise, at the FOOT")
    static void downNeedsNoneForThoseWhoAreDown(Probe x) {
        x.aside(0, NONE, "down", 0);
        x.build("x0g10g10g10g10");
        x.aside(0, NONE, "down", 15);
        x.due(0, "go", 0, 1, 0, 0);
        x.aside(0, NONE, "down", 0);
        x.aside(0, NONE, "down", 12);
        x.aside(1, 1, "down", 15);
        x.aside(1, 1, "down", 1);
        x.due(0, "go", 2, 3, 0, 0);
        x.aside(1, 2, "down", 4);
        x.aside(1, 15, "down", 12);
        x.aside(2, 1, "down", 15);
    }

    @Says(in = 27, words = "Likewise, at the FOOT")
    static void downByNoneTellsNothing(Probe x) {
        x.build("x0n05g10g10g99");
        x.due(0, "go", 0, 1, 0, 0);
        x.due(1, "loaf");
        x.none("down", 1);
        x.none("down", 3);
        x.none("down", 2);
        x.aside(0, NONE, "down", 12);
        x.due(1, "undo", 1);
        x.aside(1, 1, "down", 1);
    }

    // ---- 28 ever

    @Says(in = 28, words = "STATE: no PEOPLE")
    static void everOfNobodyIsState(Probe x) {
        x.refused(STATE, "ever");
        x.build("x0g10g11");
        x.leaves(0, "ever");
    }

    @Says(in = 28, words = "PEOPLE (bits) who can ever be at the other end than now (each for itself)")
    static void everIsOfNoneOrOfAll(Probe x) {
        x.build("x0g10g11g12g13g14g15");
        x.leaves(0, "ever");
        Probe all = x.another();
        all.build("x0g10g10g10g10g10g10");
        all.leaves(63, "ever");
        all.due(0, "go", 0, 5, 0, 0);
        all.leaves(63, "ever");
        Probe some = x.another();
        some.build("x0g10g10g10g50g50g60");
        some.leaves(0b011111, "ever");
        some.due(0, "go", 3, 4, 0, 0);
        some.leaves(0b011111, "ever");
    }

    @Says(in = 28, words = "who can ever be at the other end than now (each for itself)")
    static void everCountsThoseForWhomAnotherBringsAStone(Probe x) {
        x.build("x0o5g10g10g15g30g35");
        x.due(0, "go", 0, 2, 1, 0);
        x.leaves(0b11111, "ever");
        Probe gone = x.another();
        gone.build("x0o5n05g15g30g35");
        gone.due(0, "go", 0, 1, 1, 0);
        gone.due(1, "loaf");
        gone.leaves(0, "ever");
    }

    private PairEdgesTests() {
    }
}
