/** The edges of ROWS and TEXTS: what promises 1 to 9 name, each by itself. */
final class RowEdgesTests extends Edges {
    private static final int ROWS = 6, TEXTS = 4, LONGEST_ROW = 40, LONGEST_TEXT = 60;

    public static void main(String[] args) {
        run(RowEdgesTests.class);
    }

    // ---- ahead of the promises

    @Says(in = 0, words = "ROWS 0 .. 5 are rows of 0 to 40 ints")
    static void firstAndLastRowHoldNoneToForty(Probe x) {
        for (int r : new int[] {0, 5}) {
            x.due(0, "row", r, 0);
            x.found(BEYOND, "at", r, 0);
            x.due(40, "row", r, 40);
            x.told(1, 0, "lay", r, 39, 7);
            x.told(1, 7, "at", r, 39);
            x.found(BEYOND, "at", r, 40);
        }
        x.counts(10, 2);
    }

    @Says(in = 0, words = "TEXTS 0 .. 3 rows of 0 to 60 bytes")
    static void firstAndLastTextHoldNoneToSixty(Probe x) {
        for (int t : new int[] {0, 3}) {
            x.due(0, "text", t, 0);
            x.found(BEYOND, "put", t, 0, 1);
            x.due(60, "text", t, 60);
            x.due(1032, "put", t, 59, 7);
            x.due(1007, "put", t, 59, 7);
            x.found(BEYOND, "put", t, 60, 7);
        }
        x.counts(11, 2);
    }

    @Says(in = 0, words = "or missing (at first)")
    static void allRowsAndTextsAreMissingAtFirst(Probe x) {
        for (int r = 0; r < ROWS; r++) {
            x.found(NOTHING, "at", r, 0);
        }
        for (int t = 0; t < TEXTS; t++) {
            x.found(NOTHING, "put", t, 0, 1);
        }
    }

    // ---- 1 a new object

    @Says(in = 1, words = "No ROWS, TEXTS")
    static void newObjectHasNoRowsOrTexts(Probe x) {
        x.counts(10, 0);
        x.counts(11, 0);
        x.found(NOTHING, "tear", 0);
        x.found(NOTHING, "tear", 5);
        x.found(NOTHING, "fault", 0);
        x.found(NOTHING, "fault", 3);
    }

    @Says(in = 1, words = "PEOPLE, STONES")
    static void newObjectHasNoPeopleOrStones(Probe x) {
        for (int what = 0; what <= 9; what++) {
            x.counts(what, 0);
        }
        x.refused(BAD, "one", 0, 0);
        x.refused(BAD, "waits", 0);
        x.refused(BAD, "sink", 0, 1, 0, 0);
        x.refused(STATE, "loaf");
        x.refused(STATE, "worth");
        x.refused(STATE, "ever");
    }

    @Says(in = 1, words = "No ROWS, TEXTS, PEOPLE, STONES")
    static void newObjectHasNothingOfAnother(Probe x) {
        x.build("x9o5g10g10");
        x.due(1, "loaf");
        x.due(1, "keep", 0);
        x.fill(5, 7);
        x.due(FINDING, "tear", 4);
        Probe other = x.another();
        for (int what = 0; what <= 12; what++) {
            other.counts(what, 0);
        }
        other.due(0, "asked");
        other.due(0, "finding");
        other.due(0, "findings", NOTHING);
    }

    // ---- 2 row

    @Says(in = 2, words = "BAD")
    static void rowThatIsNoneIsBad(Probe x) {
        x.due(1, "row", 0, 1);
        x.due(1, "row", 5, 1);
        for (int r : outside(ROWS)) {
            x.refused(BAD, "row", r, 1);
        }
        x.counts(10, 2);
    }

    @Says(in = 2, words = "also n above 40")
    static void rowOfFortyOneIsBad(Probe x) {
        x.due(40, "row", 2, 40);
        x.due(1, "lay", 2, 39, 8);
        x.refused(BAD, "row", 2, 41);
        x.refused(BAD, "row", 2, MAX);
        x.refused(BAD, "row", 3, 41);
        x.told(1, 8, "at", 2, 39);
        x.found(NOTHING, "at", 3, 0);
    }

    @Says(in = 2, words = "SIZE: below 0")
    static void rowBelowNoneIsSize(Probe x) {
        x.fill(2, 8);
        x.found(SIZE, "row", 2, -1);
        x.found(SIZE, "row", 2, MIN);
        x.found(SIZE, "row", 3, -1);
        x.hasRow(2, 8);
        x.found(NOTHING, "at", 3, 0);
        x.due(0, "row", 2, 0);
    }

    @Says(in = 2, words = "BAD: also n above 40; SIZE: below 0")
    static void badRowIsToldAheadOfItsSize(Probe x) {
        x.refused(BAD, "row", -1, -1);
        x.refused(BAD, "row", 6, -1);
        x.refused(BAD, "row", 6, MIN);
    }

    @Says(in = 2, words = "A ROW is there with n ints 0: n")
    static void rowAnewIsAllNoughtWhereALongerOneWas(Probe x) {
        x.due(LONGEST_ROW, "row", 1, LONGEST_ROW);
        for (int i = 0; i < LONGEST_ROW; i++) {
            x.due(1, "lay", 1, i, -1 - i);
        }
        x.due(3, "row", 1, 3);
        x.hasRow(1, 0, 0, 0);
        x.due(0, "row", 1, 0);
        x.hasRow(1);
        x.due(LONGEST_ROW, "row", 1, LONGEST_ROW);
        x.hasRow(1, new int[LONGEST_ROW]);
        x.counts(10, 1);
    }

    // ---- 3 lay

    @Says(in = 3, words = "BAD")
    static void layInNoRowIsBad(Probe x) {
        x.fill(0, 1);
        x.fill(5, 1);
        x.told(1, 1, "lay", 0, 0, 2);
        x.told(1, 1, "lay", 5, 0, 2);
        for (int r : outside(ROWS)) {
            x.refused(BAD, "lay", r, 0, 3);
        }
    }

    @Says(in = 3, words = "NOTHING")
    static void layInAMissingRowIsNothing(Probe x) {
        x.found(NOTHING, "lay", 0, 0, 3);
        x.fill(5, 1);
        x.due(1, "tear", 5);
        x.found(NOTHING, "lay", 5, 0, 3);
        x.counts(10, 0);
    }

    @Says(in = 3, words = "BEYOND")
    static void layBesideTheRowIsBeyond(Probe x) {
        x.fill(0, 1, 2);
        x.told(1, 1, "lay", 0, 0, 3);
        x.told(1, 2, "lay", 0, 1, 4);
        for (int i : outside(2)) {
            x.found(BEYOND, "lay", 0, i, 5);
        }
        x.hasRow(0, 3, 4);
        x.due(0, "row", 0, 0);
        x.found(BEYOND, "lay", 0, 0, 5);
    }

    @Says(in = 3, words = "BEYOND")
    static void layInAFullRowEndsAtForty(Probe x) {
        x.due(LONGEST_ROW, "row", 5, LONGEST_ROW);
        x.told(1, 0, "lay", 5, 39, 6);
        x.found(BEYOND, "lay", 5, 40, 6);
        x.due(39, "row", 5, 39);
        x.found(BEYOND, "lay", 5, 39, 6);
    }

    @Says(in = 3, words = "BAD; NOTHING; BEYOND")
    static void layIsRefusedInThatOrder(Probe x) {
        x.refused(BAD, "lay", 6, -1, 0);
        x.refused(BAD, "lay", -1, 41, 0);
        x.found(NOTHING, "lay", 0, -1, 0);
        x.found(NOTHING, "lay", 0, 41, 0);
    }

    @Says(in = 3, words = "Place i of a ROW is v: what it was, told by asked(): 1")
    static void layTakesTheEndsOfAllInts(Probe x) {
        x.due(2, "row", 0, 2);
        x.told(1, 0, "lay", 0, 1, MIN);
        x.told(1, MIN, "lay", 0, 1, MAX);
        x.told(1, MAX, "lay", 0, 1, -1);
        x.hasRow(0, 0, -1);
    }

    // ---- 4 at

    @Says(in = 4, words = "BAD")
    static void atOfNoRowIsBad(Probe x) {
        x.fill(0, 3);
        x.fill(5, 4);
        x.told(1, 3, "at", 0, 0);
        x.told(1, 4, "at", 5, 0);
        for (int r : outside(ROWS)) {
            x.refused(BAD, "at", r, 0);
        }
    }

    @Says(in = 4, words = "NOTHING")
    static void atOfAMissingRowIsNothing(Probe x) {
        x.found(NOTHING, "at", 5, 0);
        x.fill(5, 4);
        x.told(1, 4, "at", 5, 0);
        x.due(1, "tear", 5);
        x.found(NOTHING, "at", 5, 0);
    }

    @Says(in = 4, words = "BEYOND")
    static void atBesideTheRowIsBeyond(Probe x) {
        x.fill(1, 3, 4, 5);
        x.told(1, 5, "at", 1, 2);
        x.told(1, 3, "at", 1, 0);
        for (int i : outside(3)) {
            x.found(BEYOND, "at", 1, i);
        }
        x.due(0, "row", 1, 0);
        for (int i : outside(0)) {
            x.found(BEYOND, "at", 1, i);
        }
    }

    @Says(in = 4, words = "BAD; NOTHING; BEYOND")
    static void atIsRefusedInThatOrder(Probe x) {
        x.refused(BAD, "at", 6, 0);
        x.refused(BAD, "at", -1, -1);
        x.found(NOTHING, "at", 0, -1);
        x.found(NOTHING, "at", 0, MAX);
    }

    @Says(in = 4, words = "Place i of a ROW, told by asked(): 1")
    static void atTellsTheEndsOfAllInts(Probe x) {
        x.fill(1, MIN, MAX, -1, 0, 1);
        x.hasRow(1, MIN, MAX, -1, 0, 1);
    }

    // ---- 5 tear

    @Says(in = 5, words = "BAD")
    static void tearNoRowIsBad(Probe x) {
        x.due(1, "row", 0, 1);
        x.due(1, "row", 5, 1);
        for (int r : outside(ROWS)) {
            x.refused(BAD, "tear", r);
        }
        x.due(1, "tear", 0);
        x.due(1, "tear", 5);
        x.counts(10, 0);
    }

    @Says(in = 5, words = "NOTHING")
    static void tearAMissingRowIsNothing(Probe x) {
        x.found(NOTHING, "tear", 3);
        x.due(2, "row", 3, 2);
        x.due(1, "tear", 3);
        x.found(NOTHING, "tear", 3);
    }

    @Says(in = 5, words = "A ROW is missing: 1")
    static void tearAnEmptyRowAndOnlyThatOne(Probe x) {
        x.due(0, "row", 2, 0);
        x.fill(1, 8);
        x.fill(3, 9);
        x.due(1, "tear", 2);
        x.found(NOTHING, "at", 2, 0);
        x.hasRow(1, 8);
        x.hasRow(3, 9);
    }

    @Says(in = 5, words = "A ROW is missing: 1")
    static void tornRowComesBackAsNoughts(Probe x) {
        x.fill(2, 6, 7);
        x.due(1, "tear", 2);
        x.due(2, "row", 2, 2);
        x.hasRow(2, 0, 0);
    }

    // ---- 6 copy

    @Says(in = 6, words = "BAD")
    static void copyWithNoRowIsBad(Probe x) {
        x.fill(0, 1);
        x.fill(5, 2);
        for (int r : outside(ROWS)) {
            x.refused(BAD, "copy", r, 0, 0, 0, 1);
            x.refused(BAD, "copy", 0, 0, r, 0, 1);
        }
        x.due(1, "copy", 0, 0, 5, 0, 1);
        x.hasRow(5, 1);
    }

    @Says(in = 6, words = "SIZE: n below 0")
    static void copyBelowNoneIsSize(Probe x) {
        x.fill(0, 1, 2, 3);
        x.fill(1, 4, 5, 6);
        x.found(SIZE, "copy", 0, 2, 1, 2, -1);
        x.found(SIZE, "copy", 0, 0, 1, 0, MIN);
        x.due(1, "copy", 0, 2, 1, 2, 0);
        x.hasRow(1, 4, 5, 6);
    }

    @Says(in = 6, words = "NOTHING: either")
    static void copyFromOrToAMissingRowIsNothing(Probe x) {
        x.fill(0, 1);
        x.found(NOTHING, "copy", 1, 0, 0, 0, 1);
        x.found(NOTHING, "copy", 0, 0, 1, 0, 1);
        x.found(NOTHING, "copy", 1, 0, 2, 0, 1);
        x.found(NOTHING, "copy", 1, 0, 1, 0, 0);
        x.hasRow(0, 1);
    }

    @Says(in = 6, words = "BEYOND: not so many there")
    static void copyOfMoreThanThereAreIsBeyond(Probe x) {
        x.fill(0, 1, 2, 3);
        x.fill(1, 0, 0, 0, 0, 0);
        x.due(1, "copy", 0, 0, 1, 0, 3);
        x.found(BEYOND, "copy", 0, 0, 1, 0, 4);
        x.due(1, "copy", 0, 1, 1, 3, 2);
        x.found(BEYOND, "copy", 0, 1, 1, 0, 3);
        x.found(BEYOND, "copy", 0, 2, 1, 0, 2);
        x.found(BEYOND, "copy", 0, 3, 1, 0, 1);
        x.found(BEYOND, "copy", 0, -1, 1, 0, 1);
        x.found(BEYOND, "copy", 0, -1, 1, 0, 2);
        x.hasRow(1, 1, 2, 3, 2, 3);
    }

    @Says(in = 6, words = "BEYOND: not so many there")
    static void copyToMoreThanThereAreIsBeyond(Probe x) {
        x.fill(0, 1, 2, 3);
        x.fill(1, 0, 0);
        x.found(BEYOND, "copy", 0, 0, 1, 0, 3);
        x.found(BEYOND, "copy", 0, 0, 1, 1, 2);
        x.found(BEYOND, "copy", 0, 0, 1, 2, 1);
        x.found(BEYOND, "copy", 0, 0, 1, -1, 1);
        x.hasRow(1, 0, 0);
        x.due(1, "copy", 0, 1, 1, 0, 2);
        x.due(1, "copy", 0, 0, 1, 1, 1);
        x.hasRow(1, 2, 1);
    }

    @Says(in = 6, words = "BEYOND: not so many there")
    static void copyDoesNotWrapRound(Probe x) {
        x.fill(0, 1, 2, 3);
        x.found(BEYOND, "copy", 0, MAX, 0, 0, 1);
        x.found(BEYOND, "copy", 0, 1, 0, 0, MAX);
        x.found(BEYOND, "copy", 0, MAX, 0, 0, MAX);
        x.found(BEYOND, "copy", 0, MIN, 0, 0, MAX);
        x.found(BEYOND, "copy", 0, 0, 0, MAX, 1);
        x.found(BEYOND, "copy", 0, 0, 0, MIN, 2);
        x.hasRow(0, 1, 2, 3);
    }

    @Says(in = 6, words = "(with n 0, too, if i or j is below 0 or above the size)")
    static void copyOfNoneEndsAtTheSize(Probe x) {
        x.fill(0, 1, 2, 3);
        x.fill(1, 4, 5);
        x.due(1, "copy", 0, 3, 1, 2, 0);
        x.due(1, "copy", 0, 0, 1, 0, 0);
        x.found(BEYOND, "copy", 0, 4, 1, 2, 0);
        x.found(BEYOND, "copy", 0, 3, 1, 3, 0);
        x.found(BEYOND, "copy", 0, -1, 1, 0, 0);
        x.found(BEYOND, "copy", 0, 0, 1, -1, 0);
        x.found(BEYOND, "copy", 0, MIN, 1, 0, 0);
        x.found(BEYOND, "copy", 0, 0, 1, MAX, 0);
        x.hasRow(0, 1, 2, 3);
        x.hasRow(1, 4, 5);
    }

    @Says(in = 6, words = "(with n 0, too, if i or j is below 0 or above the size)")
    static void copyOfNoneOfAnEmptyRow(Probe x) {
        x.due(0, "row", 0, 0);
        x.due(1, "copy", 0, 0, 0, 0, 0);
        x.found(BEYOND, "copy", 0, 1, 0, 0, 0);
        x.found(BEYOND, "copy", 0, 0, 0, 1, 0);
        x.found(BEYOND, "copy", 0, 0, 0, 0, 1);
    }

    @Says(in = 6, words = "(In this order.)")
    static void copyIsRefusedInThatOrder(Probe x) {
        x.fill(0, 1);
        x.refused(BAD, "copy", 6, 0, 0, 0, -1);
        x.refused(BAD, "copy", 0, 0, -1, 0, -1);
        x.refused(BAD, "copy", 1, 0, 6, 0, 1);
        x.refused(BAD, "copy", 0, 5, 6, 0, 1);
        x.found(SIZE, "copy", 1, 0, 0, 0, -1);
        x.found(SIZE, "copy", 0, 0, 1, 0, -1);
        x.found(SIZE, "copy", 0, 5, 0, 5, -1);
        x.found(NOTHING, "copy", 1, 0, 0, 5, 1);
        x.found(NOTHING, "copy", 0, 5, 1, 0, 1);
        x.found(NOTHING, "copy", 0, -1, 1, -1, 0);
    }

    @Says(in = 6, words = "(perhaps itself) from one on, as if taken ahead: 1")
    static void copyWithinARowIsAsIfTakenAhead(Probe x) {
        x.fill(0, 1, 2, 3, 4, 5);
        x.due(1, "copy", 0, 0, 0, 1, 4);
        x.hasRow(0, 1, 1, 2, 3, 4);
        x.due(1, "copy", 0, 1, 0, 0, 4);
        x.hasRow(0, 1, 2, 3, 4, 4);
        x.due(1, "copy", 0, 0, 0, 0, 5);
        x.hasRow(0, 1, 2, 3, 4, 4);
    }

    @Says(in = 6, words = "n places of a ROW, from one on, come to those of another one")
    static void copyOfAFullRow(Probe x) {
        x.due(LONGEST_ROW, "row", 0, LONGEST_ROW);
        x.due(LONGEST_ROW, "row", 5, LONGEST_ROW);
        x.due(1, "lay", 0, 0, MIN);
        x.due(1, "lay", 0, 39, MAX);
        x.due(1, "copy", 0, 0, 5, 0, LONGEST_ROW);
        x.told(1, MIN, "at", 5, 0);
        x.told(1, MAX, "at", 5, 39);
        x.found(BEYOND, "copy", 0, 0, 5, 0, LONGEST_ROW + 1);
        x.found(BEYOND, "copy", 0, 1, 5, 0, LONGEST_ROW);
        x.due(1, "copy", 0, 39, 5, 1, 1);
        x.told(1, MAX, "at", 5, 1);
        x.told(1, 0, "at", 5, 2);
        x.told(1, MIN, "at", 0, 0);
    }

    // ---- 7 mean

    @Says(in = 7, words = "BAD")
    static void meanOfNoRowIsBad(Probe x) {
        x.fill(0, 4);
        x.fill(5, 5);
        for (int r : outside(ROWS)) {
            x.refused(BAD, "mean", r);
        }
        x.told(1, 4, "mean", 0);
        x.told(1, 5, "mean", 5);
    }

    @Says(in = 7, words = "NOTHING")
    static void meanOfAMissingRowIsNothing(Probe x) {
        x.found(NOTHING, "mean", 0);
        x.fill(0, 4);
        x.due(1, "tear", 0);
        x.found(NOTHING, "mean", 0);
    }

    @Says(in = 7, words = "NOUGHT")
    static void meanOfAnEmptyRowIsNought(Probe x) {
        x.due(0, "row", 0, 0);
        x.found(NOUGHT, "mean", 0);
        x.fill(0, 4);
        x.told(1, 4, "mean", 0);
    }

    @Says(in = 7, words = "The mean of a ROW's ints, cut, told by asked(): 1")
    static void meanIsCutTowardsNought(Probe x) {
        x.fill(0, 1, 0);
        x.told(1, 0, "mean", 0);
        x.fill(0, 2, 1);
        x.told(1, 1, "mean", 0);
        x.fill(0, -1, 0);
        x.told(1, 0, "mean", 0);
        x.fill(0, -2, -1);
        x.told(1, -1, "mean", 0);
        x.fill(0, 1, 1, 0);
        x.told(1, 0, "mean", 0);
        x.fill(0, -5, -5, -4);
        x.told(1, -4, "mean", 0);
    }

    @Says(in = 7, words = "The mean of a ROW's ints, cut, told by asked(): 1")
    static void meanDoesNotWrapRound(Probe x) {
        for (int v : new int[] {MAX, MIN}) {
            x.due(LONGEST_ROW, "row", 0, LONGEST_ROW);
            for (int i = 0; i < LONGEST_ROW; i++) {
                x.due(1, "lay", 0, i, v);
            }
            x.told(1, v, "mean", 0);
        }
        x.fill(0, MAX, MIN);
        x.told(1, 0, "mean", 0);
        x.fill(0, MAX, MAX, MAX - 1);
        x.told(1, MAX - 1, "mean", 0);
    }

    // ---- 8 text

    @Says(in = 8, words = "BAD")
    static void textThatIsNoneIsBad(Probe x) {
        x.due(1, "text", 0, 1);
        x.due(1, "text", 3, 1);
        for (int t : outside(TEXTS)) {
            x.refused(BAD, "text", t, 1);
        }
        x.counts(11, 2);
    }

    @Says(in = 8, words = "also n above 60")
    static void textOfSixtyOneIsBad(Probe x) {
        x.due(60, "text", 2, 60);
        x.due(1032, "put", 2, 59, 5);
        x.refused(BAD, "text", 2, 61);
        x.refused(BAD, "text", 2, MAX);
        x.refused(BAD, "text", 1, 61);
        x.due(1005, "put", 2, 59, 5);
        x.found(NOTHING, "put", 1, 0, 5);
    }

    @Says(in = 8, words = "SIZE: below 0")
    static void textBelowNoneIsSize(Probe x) {
        x.due(1, "text", 2, 1);
        x.due(1032, "put", 2, 0, 5);
        x.found(SIZE, "text", 2, -1);
        x.found(SIZE, "text", 2, MIN);
        x.found(SIZE, "text", 1, -1);
        x.due(1005, "put", 2, 0, 5);
        x.found(NOTHING, "put", 1, 0, 5);
        x.due(0, "text", 2, 0);
        x.found(BEYOND, "put", 2, 0, 5);
    }

    @Says(in = 8, words = "BAD: also n above 60; SIZE: below 0")
    static void badTextIsToldAheadOfItsSize(Probe x) {
        x.refused(BAD, "text", -1, -1);
        x.refused(BAD, "text", 4, -1);
        x.refused(BAD, "text", 4, MIN);
    }

    @Says(in = 8, words = "A TEXT is there with n blanks: n")
    static void textAnewIsAllBlankWhereALongerOneWas(Probe x) {
        x.due(LONGEST_TEXT, "text", 1, LONGEST_TEXT);
        for (int i = 0; i < LONGEST_TEXT; i++) {
            x.due(1032, "put", 1, i, i);
        }
        x.due(0, "text", 1, 0);
        x.due(LONGEST_TEXT, "text", 1, LONGEST_TEXT);
        for (int i = 0; i < LONGEST_TEXT; i++) {
            x.due(1032, "put", 1, i, i);
        }
        x.counts(11, 1);
    }

    // ---- 9 put

    @Says(in = 9, words = "BAD")
    static void putIntoNoTextIsBad(Probe x) {
        x.due(1, "text", 0, 1);
        x.due(1, "text", 3, 1);
        for (int t : outside(TEXTS)) {
            x.refused(BAD, "put", t, 0, 5);
        }
        x.due(1032, "put", 0, 0, 5);
        x.due(1032, "put", 3, 0, 5);
    }

    @Says(in = 9, words = "NOTHING")
    static void putIntoAMissingTextIsNothing(Probe x) {
        x.found(NOTHING, "put", 0, 0, 5);
        x.found(NOTHING, "put", 3, 0, 5);
        x.counts(11, 0);
    }

    @Says(in = 9, words = "BEYOND")
    static void putBesideTheTextIsBeyond(Probe x) {
        x.due(2, "text", 0, 2);
        x.due(1032, "put", 0, 0, 5);
        x.due(1032, "put", 0, 1, 6);
        for (int i : outside(2)) {
            x.found(BEYOND, "put", 0, i, 7);
        }
        x.due(1005, "put", 0, 0, 5);
        x.due(1006, "put", 0, 1, 6);
        x.due(0, "text", 0, 0);
        for (int i : outside(0)) {
            x.found(BEYOND, "put", 0, i, 7);
        }
    }

    @Says(in = 9, words = "BAD; NOTHING; BEYOND")
    static void putIsRefusedInThatOrder(Probe x) {
        x.refused(BAD, "put", 4, -1, 0);
        x.refused(BAD, "put", -1, 60, 0);
        x.found(NOTHING, "put", 0, -1, 0);
        x.found(NOTHING, "put", 0, 60, 0);
    }

    @Says(in = 9, words = "cut to a byte (-128 .. 127)")
    static void putWrapsRoundAtTheEndsOfAByte(Probe x) {
        x.due(1, "text", 0, 1);
        x.due(1032, "put", 0, 0, 127);
        x.due(1127, "put", 0, 0, 128);
        x.due(872, "put", 0, 0, -128);
        x.due(872, "put", 0, 0, -129);
        x.due(1127, "put", 0, 0, 255);
        x.due(999, "put", 0, 0, 256);
        x.due(1000, "put", 0, 0, -256);
        x.due(1000, "put", 0, 0, -255);
        x.due(1001, "put", 0, 0, MAX);
        x.due(999, "put", 0, 0, MIN);
        x.due(1000, "put", 0, 0, 1000);
        x.due(976, "put", 0, 0, 0);
    }

    @Says(in = 9, words = "what it was, and 1000 more")
    static void putAnswersEachByteWithAThousandMore(Probe x) {
        x.due(1, "text", 3, 1);
        x.due(1032, "put", 3, 0, -128);
        for (int v = -128; v < 127; v++) {
            x.due(1000 + v, "put", 3, 0, v + 1);
        }
        x.due(1127, "put", 3, 0, 0);
    }

    private RowEdgesTests() {
    }
}
