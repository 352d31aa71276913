/** What each call changes in the midst of a tower's days, and that it leaves all the rest as it is; each by itself. */
final class StillEdgesTests extends Edges {
    public static void main(String[] args) {
        run(StillEdgesTests.class);
    }

    // ---- 1 rows, texts, towers

    @Says(in = 2, words = "A ROW is there with n ints 0: n")
    static void rowChangesThatRowAlone(Probe x) {
        Rich all = new Rich(x);
        all.rows[1] = new long[] {0, 0};
        all.due(2, "row 1 2");
        all.rows[0] = new long[] {0};
        all.due(1, "row 0 1");
        all.rows[2] = new long[40];
        all.due(40, "row 2 40");
        all.rows[3] = new long[0];
        all.due(0, "row 3 0");
        all.leaves(BAD, "row 6 1", "row -1 1", "row 0 41");
        all.found(SIZE, "row 0 -1");
    }

    @Says(in = 3, words = "Place i of a ROW is v: what it was, told by asked(): 1")
    static void layChangesThatPlaceAlone(Probe x) {
        Rich all = new Rich(x);
        all.rows[0][2] = MIN;
        all.told(1, 9, "lay 0 2 " + MIN);
        all.rows[2][0] = 4;
        all.told(1, 1, "lay 2 0 4");
        all.told(1, 4, "lay 2 0 4");
        all.leaves(BAD, "lay 6 0 1", "lay -1 0 1");
        all.found(NOTHING, "lay 5 0 1");
        all.found(BEYOND, "lay 0 3 1");
    }

    @Says(in = 4, words = "Place i of a ROW, told by asked(): 1")
    static void atChangesNothing(Probe x) {
        Rich all = new Rich(x);
        all.told(1, 7, "at 0 0");
        all.told(1, 3, "at 2 1");
        all.leaves(BAD, "at 6 0", "at -1 0");
        all.found(NOTHING, "at 1 0");
        all.found(BEYOND, "at 4 0");
    }

    @Says(in = 5, words = "A ROW is missing: 1")
    static void tearTakesThatRowAlone(Probe x) {
        Rich all = new Rich(x);
        all.rows[2] = null;
        all.due(1, "tear 2");
        all.rows[4] = null;
        all.due(1, "tear 4");
        all.found(NOTHING, "tear 4");
        all.leaves(BAD, "tear 6", "tear -1");
    }

    @Says(in = 6, words = "n places of a ROW, from one on, come to those of another one (perhaps itself) from one on, as if taken ahead: 1")
    static void copyChangesThosePlacesAlone(Probe x) {
        Rich all = new Rich(x);
        all.rows[2] = new long[] {20, 9};
        all.due(1, "copy 0 1 2 0 2");
        all.rows[0] = new long[] {7, 7, 20};
        all.due(1, "copy 0 0 0 1 2");
        all.rows[0] = new long[] {7, 20, 20};
        all.due(1, "copy 0 2 0 1 1");
        all.leaves(1, "copy 0 3 4 0 0", "copy 0 0 0 0 3");
        all.leaves(BAD, "copy 6 0 0 0 1", "copy 0 0 6 0 1");
        all.found(SIZE, "copy 0 0 1 0 -1");
        all.found(NOTHING, "copy 0 0 1 0 4");
        all.found(BEYOND, "copy 0 0 2 0 3");
    }

    @Says(in = 7, words = "The mean of a ROW's ints, cut, told by asked(): 1")
    static void meanIsToldByAskedAlone(Probe x) {
        Rich all = new Rich(x);
        all.told(1, 12, "mean 0");
        all.told(1, 2, "mean 2");
        all.leaves(BAD, "mean 6", "mean -1");
        all.found(NOTHING, "mean 1");
        all.found(NOUGHT, "mean 4");
    }

    @Says(in = 8, words = "A TEXT is there with n blanks: n")
    static void textChangesThatTextAlone(Probe x) {
        Rich all = new Rich(x);
        all.texts[1] = new long[] {32};
        all.due(1, "text 1 1");
        all.texts[3] = new long[] {32, 32, 32};
        all.due(3, "text 3 3");
        all.texts[0] = new long[0];
        all.due(0, "text 0 0");
        all.leaves(BAD, "text 4 1", "text -1 1", "text 0 61");
        all.found(SIZE, "text 0 -1");
    }

    @Says(in = 9, words = {"Byte i of a TEXT is v, cut to a byte (-128 .. 127)", "what it was, and 1000 more"})
    static void putChangesThatByteAlone(Probe x) {
        Rich all = new Rich(x);
        all.texts[3][0] = -1;
        all.due(1032, "put 3 0 511");
        all.texts[0][1] = '9';
        all.due(1000 + '2', "put 0 1 57");
        all.due(999, "put 3 0 -1");
        all.leaves(BAD, "put 4 0 1", "put -1 0 1");
        all.found(NOTHING, "put 1 0 1");
        all.found(BEYOND, "put 3 2 1");
    }

    @Says(in = 10, words = "A FAULT of a TEXT; NONE: there is none")
    static void faultChangesNothing(Probe x) {
        Rich all = new Rich(x);
        all.leaves(NONE, "fault 0");
        all.leaves(1, "fault 3");
        all.leaves(BAD, "fault 4", "fault -1");
        all.found(NOTHING, "fault 1");
    }

    @Says(in = 11, words = "A TOWER by a TEXT (anew: all at the FOOT, no LOAVES, no DEEDS; kept TOWERS go): how many PEOPLE")
    static void towerAnewLeavesRowsTextsAndWhatWasTold(Probe x) {
        Rich all = new Rich(x);
        all.deedsAre(0, 0, 0);
        all.peopleAre(0, 20, 0b111110, 0b111101, 0b111011, 0b110111, 0b101111, 0b011111);
        all.kept[1] = -1;
        all.kept[2] = -1;
        all.due(6, "tower 0");
        all.due(6, "tower 0");
    }

    @Says(in = 11, words = "BAD; NOTHING; STATE: a FAULT")
    static void towerThatIsRefusedLeavesTheOneThatStands(Probe x) {
        Rich all = new Rich(x);
        all.kept[0] = 4;
        all.due(4, "keep 0");
        all.leaves(STATE, "tower 3");
        all.leaves(BAD, "tower 4", "tower -1");
        all.found(NOTHING, "tower 2");
        all.texts[0][21] = 'o';
        all.due(1000 + 'b', "put 0 21 111");
        all.leaves(STATE, "tower 0");
        all.leaves(21, "fault 0");
    }

    @Says(in = 12, words = "Of one of PEOPLE: 0 the KIND, 1 POUNDS, 2 what it COUNTS now, 3 whether it is at the TOP (1, 0), 4 with whom it CAN go now (bits), told by asked(): 1")
    static void oneChangesNothing(Probe x) {
        Rich all = new Rich(x);
        for (int i = 0; i < 6; i++) {
            for (int what = 0; what <= 4; what++) {
                if ((i + what) % 2 == 0) {
                    all.told(1, all.people[i][what], "one " + i + " " + what);
                }
            }
        }
        all.leaves(BAD, "one 6 0", "one -1 0", "one 0 5", "one 0 -1");
    }

    @Says(in = 13, words = "What one that IS of a KIND tells")
    static void markChangesNothing(Probe x) {
        Rich all = new Rich(x);
        all.leaves(1, "mark 1 1", "mark 2 1");
        all.leaves(22, "mark 3 2");
        all.leaves(68, "mark 5 2");
        all.leaves(2, "mark 4 3");
        all.leaves(7, "mark 4 4");
        all.leaves(23, "mark 5 5");
        all.leaves(BAD, "mark 6 1", "mark 0 0", "mark 0 6", "mark -1 1");
        all.found(UNLIKE, "mark 3 5");
    }

    @Says(in = 13, words = "how many others COUNT more now")
    static void markOfALameLooksAtBothEnds(Probe x) {
        x.build("x0l10g16g16g17g15");
        x.due(0, "go", 1, 2, 0, 0);
        x.due(3, "mark", 0, 3);
    }

    // ---- 2 deeds

    @Says(in = 14, words = "Two GO, the first with a set of STONES, the other one with another set: by how much the stairs SINK")
    static void goMovesTheseTwoAndTheseStonesAlone(Probe x) {
        Rich all = new Rich(x);
        all.deedsAre(5, 2, 4);
        all.counts[5] = 0b01;
        all.peopleAre(0b111111, 22, 0b111010, 0b111101, 0b000010, 0b110011, 0b101011, 0b011011);
        all.due(1, "go 1 2 1 0");
    }

    @Says(in = 14, words = "BAD: also the same, sets that are none, or share a STONE; STATE: not at one end, STONES that are not there; SPENT: the stairs SINK too much")
    static void goThatIsRefusedMovesNobody(Probe x) {
        Rich all = new Rich(x);
        all.leaves(BAD, "go 6 0 0 0", "go 0 0 0 0", "go 1 2 4 0", "go 1 2 1 1");
        all.leaves(STATE, "go 0 1 0 0", "go 0 3 1 0");
        all.leaves(SPENT, "go 1 2 0 1", "go 1 2 1 2");
    }

    @Says(in = 0, words = "if the stairs SINK by the LIMIT at most")
    static void twoComeDownByTheLimitAndNotByOneMore(Probe x) {
        x.build("x3g20g20g23g24");
        x.due(0, "go", 0, 1, 0, 0);
        x.due(1, "go", 2, 3, 0, 0);
        x.refused(SPENT, "go", 0, 3, 0, 0);
        x.refused(SPENT, "go", 3, 1, 0, 0);
        x.due(3, "go", 0, 2, 0, 0);
        x.counts(4, 0b1010);
        x.due(3, "go", 2, 0, 0, 0);
        x.counts(4, 0b1111);
    }

    @Says(in = 15, words = "A LOAF: how many are eaten")
    static void loafChangesLoavesAndTheCanonAlone(Probe x) {
        Rich all = new Rich(x);
        all.deedsAre(5, 3, 3);
        all.peopleAre(0b111001, 23, 0b101000, 0b000100, 0b000010, 0b110001, 0b101000, 0b011001);
        all.due(3, "loaf");
    }

    @Says(in = 16, words = "DEEDS from number n on (0 to how many there are: none then) are undone: how many")
    static void undoBringsBackWhatWasBeforeThem(Probe x) {
        Rich all = new Rich(x);
        all.leaves(0, "undo 4");
        all.leaves(BAD, "undo 5", "undo -1");
        all.deedsAre(3, 1, 3);
        all.peopleAre(0b111001, 21, 0b111000, 0b000100, 0b000010, 0b110001, 0b101001, 0b011001);
        all.due(1, "undo 3");
        all.deedsAre(1, 0, 2);
        all.peopleAre(0b001001, 20, 0b001000, 0b110100, 0b110010, 0b000001, 0b100110, 0b010110);
        all.due(2, "undo 1");
        all.deedsAre(0, 0, 0);
        all.peopleAre(0, 20, 0b111110, 0b111101, 0b111011, 0b110111, 0b101111, 0b011111);
        all.due(1, "undo 0");
    }

    @Says(in = 17, words = "The TOWER (as it is, DEEDS) is kept in a place (0 .. 2): how many DEEDS")
    static void keepChangesThatPlaceAlone(Probe x) {
        Rich all = new Rich(x);
        all.kept[0] = 4;
        all.due(4, "keep 0");
        all.kept[1] = 4;
        all.due(4, "keep 1");
        all.leaves(BAD, "keep 3", "keep -1");
    }

    @Says(in = 18, words = "The TOWER is as it was kept: how many DEEDS")
    static void onLeavesRowsTextsAndKeptTowers(Probe x) {
        Rich all = new Rich(x);
        all.found(NOTHING, "on 0");
        all.leaves(BAD, "on 3", "on -1");
        all.deedsAre(3, 1, 3);
        all.peopleAre(0b111001, 21, 0b111000, 0b000100, 0b000010, 0b110001, 0b101001, 0b011001);
        all.due(3, "on 2");
        all.due(3, "on 2");
        all.deedsAre(1, 0, 2);
        all.peopleAre(0b001001, 20, 0b001000, 0b110100, 0b110010, 0b000001, 0b100110, 0b010110);
        all.due(1, "on 1");
        all.leaves(BAD, "undo 2");
    }

    @Says(in = 18, words = "The TOWER is as it was kept")
    static void peopleAndStonesOfEachDeedComeBack(Probe x) {
        x.build("x9o1o2g10g10g10g10");
        x.due(1, "go", 0, 1, 1, 0);
        x.due(2, "go", 2, 3, 2, 0);
        x.due(1, "go", 1, 2, 0, 1);
        x.due(1, "loaf");
        x.due(4, "keep", 0);
        x.due(4, "undo", 0);
        x.due(2, "go", 1, 3, 2, 0);
        x.due(1, "loaf");
        x.due(2, "loaf");
        x.due(3, "loaf");
        x.due(0, "go", 0, 2, 0, 0);
        x.due(4, "on", 0);
        int[][] peopleAndStones = {{0, 0}, {0b0011, 1}, {0b1111, 3}, {0b1001, 2}, {0b1001, 2}};
        for (int n = 4; n >= 0; n--) {
            x.due(n < 4 ? 1 : 0, "undo", n);
            x.counts(4, peopleAndStones[n][0]);
            x.counts(5, peopleAndStones[n][1]);
        }
    }

    // ---- 3 who with whom

    @Says(in = 0, words = "Two CAN go, if they can with some of the STONES at their end, or with none")
    static void twoCanGoEvenIfNoMoreDeedsCanBeDone(Probe x) {
        x.build("x0n10g24g24");
        x.goes(40, 1, 2);
        x.refused(FULL, "go", 1, 2, 0, 0);
        x.told(1, 4, "one", 1, 4);
        x.told(1, 8, "pairs");
        x.told(1, 6, "match");
        x.told(1, 8, "up", 6);
        x.due(6, "ever");
        x.due(9, "loaves", 0, 1);
        x.due(9, "mark", 0, 4);
    }

    @Says(in = 19, words = "By how much the stairs would SINK (wherever all are)")
    static void sinkChangesNothing(Probe x) {
        Rich all = new Rich(x);
        all.leaves(3, "sink 0 1 0 0");
        all.leaves(0, "sink 1 0 0 1");
        all.leaves(3, "sink 1 2 1 2");
        all.leaves(BAD, "sink 6 0 0 0", "sink 0 0 0 0", "sink 0 1 4 0", "sink 0 1 1 1");
    }

    @Says(in = 20, words = "The least by which they SINK with STONES at their end; with which by asked() (16 times the set of the first, and the other one's; of like ones the first number)")
    static void bestChangesNothing(Probe x) {
        Rich all = new Rich(x);
        all.told(2, 0, "best 0 3");
        all.told(0, 2, "best 2 1");
        all.told(0, 32, "best 1 2");
        all.leaves(BAD, "best 6 0", "best 0 0");
        all.leaves(STATE, "best 0 1");
    }

    @Says(in = 20, words = "of like ones the first number")
    static void bestTellsTheFirstNumberAndNotTheFewestStones(Probe x) {
        x.build("x9o5o2o3g10g13");
        x.told(0, 16 + 2, "best", 0, 1);
        x.told(0, 4, "best", 1, 0);
    }

    @Says(in = 21, words = "How many pairs CAN go now, each for itself; the first by asked()")
    static void pairsChangeNothing(Probe x) {
        Rich all = new Rich(x);
        all.told(7, 3, "pairs");
    }

    @Says(in = 22, words = "The most pairs (nobody in two of them) that can go all at once")
    static void matchChangesNothing(Probe x) {
        Rich all = new Rich(x);
        all.told(3, 63, "match");
    }

    @Says(in = 23, words = "The least POUNDS (1 .. 99) of a GUEST with whom one could go now, with STONES at its end. NONE: of none. BAD")
    static void waitsChangesNothing(Probe x) {
        Rich all = new Rich(x);
        all.leaves(18, "waits 0");
        all.leaves(13, "waits 1");
        all.leaves(20, "waits 4");
        all.leaves(BAD, "waits 6", "waits -1");
    }

    @Says(in = 24, words = "The STONE without which fewest pairs CAN go now (the first); how many fewer by asked()")
    static void worthChangesNothing(Probe x) {
        Rich all = new Rich(x);
        all.told(0, 0, "worth");
    }

    @Says(in = 24, words = "NONE: no STONES. STATE: no PEOPLE")
    static void worthOfNoStonesLeavesWhatIsDone(Probe x) {
        x.build("x0g10g10");
        x.due(0, "go", 0, 1, 0, 0);
        x.due(1, "loaf");
        x.due(2, "keep", 0);
        x.told(1, 10, "one", 0, 1);
        x.none("worth");
    }

    @Says(in = 25, words = "The fewest LOAVES more (0 .. 9, those that can be eaten) by which the stairs would SINK by the LIMIT at most under two with no STONES")
    static void loavesChangeNothing(Probe x) {
        Rich all = new Rich(x);
        all.leaves(0, "loaves 0 4", "loaves 1 2", "loaves 3 5");
        all.leaves(BAD, "loaves 6 0", "loaves 0 0");
        all.leaves(STATE, "loaves 0 1");
    }

    @Says(in = 25, words = "by which the stairs would SINK by the LIMIT at most under two with no STONES")
    static void loavesAreNoneForTwoWhoCanGoWithoutAny(Probe x) {
        x.build("x1g10g11c50");
        x.due(0, "loaves", 0, 1);
        x.none("loaves", 0, 2);
    }

    // ---- 4 goes to come

    @Says(in = 26, words = "the first GO of the first such row (6 times the lesser, and the other; by numbers of pairs) by asked() (NONE: none is needed). NONE: by none. BAD")
    static void upChangesNothing(Probe x) {
        Rich all = new Rich(x);
        all.told(1, 8, "up 63");
        all.told(1, 8, "up 2");
        all.told(0, NONE, "up 57");
        all.leaves(BAD, "up 64", "up -1");
    }

    @Says(in = 27, words = "Likewise, at the FOOT")
    static void downChangesNothing(Probe x) {
        Rich all = new Rich(x);
        all.told(2, 3, "down 57");
        all.told(1, 29, "down 48");
        all.told(0, NONE, "down 6");
        all.leaves(BAD, "down 64", "down -1");
    }

    @Says(in = 28, words = "PEOPLE (bits) who can ever be at the other end than now (each for itself)")
    static void everChangesNothing(Probe x) {
        new Rich(x).leaves(63, "ever");
    }

    @Says(in = 0, words = "(LOAVES as they are)")
    static void goesToComeTakeTheLoavesThatAreEaten(Probe x) {
        x.build("x0n10g17g10");
        x.none("up", 3);
        x.none("up", 1);
        x.due(0, "ever");
        x.loaves(2);
        x.told(1, 1, "up", 3);
        x.told(0, NONE, "down", 3);
        x.due(3, "ever");
        x.due(0, "go", 0, 1, 0, 0);
        x.told(1, 1, "down", 1);
        x.due(3, "loaf");
        x.none("down", 1);
        x.due(0, "ever");
    }

    @Says(in = 26, words = "The fewest GOES from now on")
    static void upOfTwoTwinsByHalfOfWhatTheyDiffer(Probe x) {
        x.build("x2t20t25t30g37");
        x.told(1, 1, "up", 3);
        x.told(1, 8, "up", 4);
        x.none("up", 8);
        x.told(1, 1, "up", 1);
        x.due(7, "ever");
    }

    // ---- 5 by how far it sank

    @Says(in = 29, words = "How many POUNDS (1 .. 99) one can have by these; the least by asked() (NONE: there are none). BAD; NOTHING; SIZE; UNLIKE")
    static void poundsChangeNothing(Probe x) {
        Rich all = new Rich(x);
        all.told(2, 20, "pounds 0 2");
        all.told(99, 1, "pounds 4 4");
        all.leaves(BAD, "pounds 6 2", "pounds 0 6");
        all.found(NOTHING, "pounds 0 1");
        all.found(SIZE, "pounds 0 3");
        all.found(UNLIKE, "pounds 1 2");
    }

    @Says(in = 29, words = "How many POUNDS (1 .. 99) one can have by these")
    static void poundsAreThoseOfOnesOwnKind(Probe x) {
        x.build("x0l10g40t40n10");
        x.fill(0, 1, 20);
        x.told(2, 15, "pounds", 0, 0);
        x.told(2, 20, "pounds", 2, 0);
        x.told(2, 15, "pounds", 3, 0);
        x.loaves(4);
        x.told(2, 15, "pounds", 0, 0);
        x.told(2, 11, "pounds", 3, 0);
        x.fill(0, 3, 1);
        x.told(2, 18, "pounds", 1, 0);
    }

    @Says(in = 30, words = "Of which KINDS (bits) one can be by these. BAD; NOTHING; SIZE; UNLIKE")
    static void kindsChangeNothing(Probe x) {
        Rich all = new Rich(x);
        all.leaves(0b000001, "kinds 0 2");
        all.leaves(0b111111, "kinds 0 4");
        all.leaves(BAD, "kinds 6 2", "kinds 0 6");
        all.found(NOTHING, "kinds 0 1");
        all.found(SIZE, "kinds 0 3");
        all.found(UNLIKE, "kinds 1 2");
    }

    @Says(in = 30, words = "Of which KINDS (bits) one can be by these")
    static void kindsAreByLoavesOfBoth(Probe x) {
        x.build("x0g20n10");
        x.fill(0, 1, 8);
        x.loaves(3);
        // the CANON COUNTS 18: a GUEST of 20 by 2, a CHILD by 8, a LAME by 7, a CANON by 10
        x.leaves(0b000100, "kinds", 0, 0);
        x.fill(0, 1, 10);
        x.leaves(0b010000, "kinds", 0, 0);
    }

    @Says(in = 31, words = "With whom (the first) it should be weighed next so that these KINDS are told apart best: the greatest part of KINDS by which it SINKS alike is least; that part by asked()")
    static void nextChangesNothing(Probe x) {
        Rich all = new Rich(x);
        all.told(1, 1, "next 0 2");
        all.rows[2][1] = 200;
        all.told(1, 3, "lay 2 1 200");
        all.leaves(NONE, "next 0 2");
        all.leaves(BAD, "next 6 2", "next 0 6");
        all.found(NOTHING, "next 0 1");
        all.found(SIZE, "next 0 3");
        all.found(UNLIKE, "next 1 2");
    }

    @Says(in = 31, words = "With whom (the first) it should be weighed next")
    static void nextMayBeOneAtTheOtherEnd(Probe x) {
        x.build("x0g10g15g15g15g20g20");
        x.fill(0);
        x.due(1, "next", 0, 0);
        x.due(0, "go", 1, 2, 0, 0);
        x.due(1, "next", 0, 0);
        x.fill(0, 1, 5);
        x.due(1, "next", 0, 0);
    }

    // ---- 6 by turns, 7 chances, lots

    @Says(in = 32, words = "By turns two let a pair GO with no STONES (or none), n (0 .. 2) times each: how many are at the TOP then")
    static void sendChangesNothing(Probe x) {
        Rich all = new Rich(x);
        all.leaves(4, "send 0", "send 1", "send 2");
        all.leaves(BAD, "send 3", "send -1");
    }

    @Says(in = 33, words = "Chances that two CAN go now, if each STONE at their end is lost by p (0 .. 12) of 12, each by itself: 1. BAD: also the same; STATE: not at one end")
    static void oddsAreToldByUpperAndLowerAlone(Probe x) {
        Rich all = new Rich(x);
        all.shares(1, 1, "odds 1 2 6");
        all.shares(1, 1, "odds 0 3 12");
        all.leaves(BAD, "odds 6 0 1", "odds 0 0 1", "odds 0 3 13", "odds 0 3 -1");
        all.leaves(STATE, "odds 0 1 1");
    }

    @Says(in = 34, words = "The mean of the least by which they would SINK then: 1. BAD; STATE")
    static void midIsToldByUpperAndLowerAlone(Probe x) {
        Rich all = new Rich(x);
        all.shares(2, 1, "mid 0 3 5");
        all.shares(2, 1, "mid 1 2 12");
        all.shares(0, 1, "mid 1 2 0");
        all.leaves(BAD, "mid 6 0 1", "mid 0 0 1", "mid 0 3 13", "mid 0 3 -1");
        all.leaves(STATE, "mid 0 1 1");
    }

    @Says(in = 35, words = {"n (1 .. 20) DEEDS truly by LOTS of a seed: for each a number", "else nothing (a DEED, too): how many are at the TOP then"})
    static void lotsChangeWhatTheirDeedsDoAlone(Probe x) {
        Rich all = new Rich(x);
        all.leaves(BAD, "lots 0 1", "lots 21 1", "lots 1 0");
        all.deedsAre(5, 2, 3);
        all.due(4, "lots 1 1");
        all.deedsAre(6, 2, 5);
        all.peopleAre(0b110000, 22, 0b001110, 0b001101, 0b001011, 0b000111, 0b100000, 0b010000);
        all.due(2, "lots 1 3");
        all.deedsAre(7, 3, 5);
        all.peopleAre(0b110000, 23, 0b001110, 0b001101, 0b001011, 0b000111, 0b100000, 0b010000);
        all.due(2, "lots 1 32");
    }

    @Says(in = 35, words = "GO with the STONES that best() tells")
    static void lotsTakeTheStonesOfTheFirstAndTheOtherInThatOrder(Probe x) {
        // 48271 modulo 2 is 1, by 64 it is 754, modulo 2 that is 0: 1 and 0 GO; seed 2, by 64 1508: one alone
        x.build("x9o5o2o3g10g13");
        x.due(2, "lots", 1, 1);
        x.counts(5, 4);
        Probe other = x.another();
        other.build("x9o5o2o3g13g10");
        other.due(2, "lots", 1, 1);
        other.counts(5, 3);
    }

    // ---- 8 what is told

    @Says(in = 0, words = "What is refused changes nothing but finding(), findings()")
    static void whatIsToldChangesNothing(Probe x) {
        Rich all = new Rich(x);
        for (int what = 0; what < 10; what++) {
            all.leaves(all.counts[what], "count " + what);
        }
        all.leaves(4, "count 10");
        all.leaves(2, "count 11", "count 12");
        all.leaves(BAD, "count 13", "count -1", "findings 0", "findings 6");
    }

    private StillEdgesTests() {
    }
}
