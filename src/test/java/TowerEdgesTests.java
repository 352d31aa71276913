/** The edges of the small language, of KINDS and what they COUNT: promises 10 to 13, each by itself. */
final class TowerEdgesTests extends Edges {
    private static final int TEXTS = 4, LONGEST_TEXT = 60, KINDS = 6;
    private static final String FIGURES = "0123456789", LETTERS = "gtclnb";

    public static void main(String[] args) {
        run(TowerEdgesTests.class);
    }

    // ---- what these tests share

    /** A TEXT of which a TOWER with so many PEOPLE can be made. */
    private static void fine(Probe x, int people, String text) {
        Probe one = x.another();
        one.write(3, text);
        one.leaves(NONE, "fault", 3);
        one.due(people, "tower", 3);
        one.counts(0, people);
    }

    /** A TEXT that can't go on at a place. */
    private static void faulty(Probe x, int place, String text) {
        Probe one = x.another();
        one.write(3, text);
        one.leaves(place, "fault", 3);
        one.refused(STATE, "tower", 3);
        one.counts(0, 0);
    }

    /** Each byte at a place of a TEXT: with these there is no FAULT at that place, with others there is. */
    private static void takes(Probe x, String text, int place, String signs) {
        for (int start = -128; start < 128; start += 64) {
            Probe one = x.another();
            one.write(0, text);
            for (int sign = start; sign < start + 64; sign++) {
                one.ask("put", 0, place, sign);
                boolean taken = sign >= 0 && signs.indexOf(sign) >= 0;
                long fault = one.ask("fault", 0);
                if (taken) {
                    one.due(1000 + sign, "put", 0, place, sign);
                    notAt(x, place, fault, sign);
                } else {
                    one.due(place, "fault", 0);
                }
            }
        }
    }

    private static void notAt(Probe x, int place, long fault, int sign) {
        x.holds("that sign " + sign + " is taken at " + place, fault == NONE || fault > place);
    }

    // ---- ahead of the promises: the language

    @Says(in = 0, words = "A TOWER (without PEOPLE, STONES at first) is a TEXT")
    static void towerIsWithoutAnybodyAtFirst(Probe x) {
        x.counts(0, 0);
        x.counts(1, 0);
        x.counts(6, 0);
        x.refused(BAD, "one", 0, 0);
        x.refused(BAD, "go", 0, 1, 0, 0);
    }

    @Says(in = 0, words = "blanks (32) ahead, between, behind as many as wanted")
    static void blanksStandAheadBetweenBehind(Probe x) {
        fine(x, 2, "x1o2g10t20");
        fine(x, 2, " x1 o2 g10 t20 ");
        fine(x, 2, " ".repeat(12) + "x1" + " ".repeat(13) + "o2" + " ".repeat(14) + "g10" + "   t20" + " ".repeat(8));
        fine(x, 2, " ".repeat(LONGEST_TEXT - 8) + "x1g10t20");
        fine(x, 2, "x1g10t20" + " ".repeat(LONGEST_TEXT - 8));
        fine(x, 2, "x1" + " ".repeat(LONGEST_TEXT - 8) + "g10t20");
    }

    @Says(in = 0, words = "blanks (32) ahead, between, behind as many as wanted")
    static void onlyThirtyTwoIsABlank(Probe x) {
        takes(x, "?x1g10t20", 0, "x ");
        takes(x, "x1?o2g10t20", 2, " o" + LETTERS);
        takes(x, "x1g10t20?", 8, " " + LETTERS);
    }

    @Says(in = 0, words = "none within items (an item: a letter and all its figures)")
    static void blankWithinAnItemIsAFault(Probe x) {
        faulty(x, 1, "x 1g10t20");
        faulty(x, 3, "x1o 2g10t20");
        faulty(x, 3, "x1g 10t20");
        faulty(x, 4, "x1g1 0t20");
        faulty(x, 6, "x1g10t 20");
        faulty(x, 7, "x1g10t2 0");
    }

    @Says(in = 0, words = "First x (120)")
    static void firstComesX(Probe x) {
        fine(x, 2, "x1g10g10");
        takes(x, "x1g10g10", 0, "x ");
        takes(x, "  x1g10g10", 2, "x ");
        faulty(x, 0, "o1x1g10g10");
        faulty(x, 0, "g10x1g10");
        faulty(x, 0, "1g10g10");
    }

    @Says(in = 0, words = "First x (120)")
    static void secondXIsAFault(Probe x) {
        faulty(x, 2, "x1x1g10g10");
        faulty(x, 3, "x1 x1g10g10");
        faulty(x, 4, "x1o1x1g10g10");
        faulty(x, 8, "x1g10g10x1");
    }

    @Says(in = 0, words = "First x (120) and the LIMIT (0 .. 9, one figure)")
    static void limitIsOneFigure(Probe x) {
        takes(x, "x?g10g10", 1, FIGURES);
        faulty(x, 2, "x00g10g10");
        faulty(x, 2, "x99g10g10");
        for (int limit = 0; limit <= 9; limit++) {
            Probe one = x.another();
            one.build("x" + limit + "g10g10");
            one.counts(6, limit);
        }
    }

    @Says(in = 0, words = "Then STONES (0 to 4; 0, 1, .. as they come)")
    static void stonesAreNoneToFourAsTheyCome(Probe x) {
        x.build("x9g10g10");
        x.counts(1, 0);
        x.refused(BAD, "sink", 0, 1, 1, 0);
        Probe one = x.another();
        one.build("x9o7o1o9o4g10g10");
        one.counts(1, 4);
        one.due(7, "sink", 0, 1, 1, 0);
        one.due(1, "sink", 0, 1, 2, 0);
        one.due(9, "sink", 0, 1, 4, 0);
        one.due(4, "sink", 0, 1, 8, 0);
        one.refused(BAD, "sink", 0, 1, 16, 0);
    }

    @Says(in = 0, words = "o (111), POUNDS (1 .. 9)")
    static void stoneHasOneToNinePounds(Probe x) {
        takes(x, "x1o?g10g10", 3, "123456789");
        faulty(x, 3, "x1o0g10g10");
        faulty(x, 4, "x1o10g10g10");
        for (int pounds = 1; pounds <= 9; pounds++) {
            Probe one = x.another();
            one.build("x9o" + pounds + "g10g10");
            one.due(pounds, "sink", 0, 1, 1, 0);
        }
    }

    @Says(in = 0, words = "Then PEOPLE (2 to 6; 0, 1, .. as they come)")
    static void peopleAreTwoToSixAsTheyCome(Probe x) {
        faulty(x, 2, "x1");
        faulty(x, 5, "x1g10");
        fine(x, 2, "x1g10g20");
        fine(x, 5, "x1g10g20g30g40g50");
        faulty(x, 20, "x1g10g20g30g40g50g60g70");
        x.build("x1g10g20g30g40g50g60");
        x.counts(0, 6);
        for (int i = 0; i < 6; i++) {
            x.told(1, 10 * i + 10, "one", i, 1);
        }
        x.refused(BAD, "one", 6, 1);
    }

    @Says(in = 0, words = "a letter, POUNDS (two figures, 01 .. 99)")
    static void poundsAreTwoFigures(Probe x) {
        takes(x, "x1g?0g10", 3, FIGURES);
        takes(x, "x1g1?g10", 4, FIGURES);
        takes(x, "x1g0?g10", 4, FIGURES.substring(1));
        faulty(x, 5, "x1g100g10");
        faulty(x, 4, "x1g1g10");
        x.build("x1g01g99g09g10g90g11");
        int[] pounds = {1, 99, 9, 10, 90, 11};
        for (int i = 0; i < 6; i++) {
            x.told(1, pounds[i], "one", i, 1);
        }
    }

    // ---- ahead of the promises: FAULTS

    @Says(in = 0, words = "A FAULT is the first place at which it can't go on so")
    static void firstOfSeveralFaultsIsTold(Probe x) {
        faulty(x, 0, "?x1o0g00");
        faulty(x, 1, "x?o0g00");
        faulty(x, 3, "x1o0g00");
        faulty(x, 4, "x1g00o1");
        faulty(x, 5, "x1g01o1g?");
        faulty(x, 2, "x1?");
    }

    @Says(in = 0, words = "a letter, a figure that is none such")
    static void everyByteThatIsNoSuchLetterIsAFault(Probe x) {
        takes(x, "x1g10?10", 5, LETTERS + " ");
        takes(x, "x1?10g10", 2, LETTERS + "o ");
        takes(x, "x1o1?10g10", 4, LETTERS + "o ");
        takes(x, "x1o1o1o1o1?10g10", 10, LETTERS + " ");
        takes(x, "x1g10g10g10g10g10g10?", 20, " ");
    }

    @Says(in = 0, words = "a letter, a figure that is none such")
    static void capitalsAreNoLetters(Probe x) {
        faulty(x, 0, "X1g10g10");
        faulty(x, 2, "x1O1g10g10");
        faulty(x, 2, "x1G10g10");
        faulty(x, 5, "x1g10T10");
        faulty(x, 5, "x1g10N10");
    }

    @Says(in = 0, words = "a second figure of 00")
    static void noughtNoughtIsAFaultAtItsSecondFigure(Probe x) {
        faulty(x, 4, "x1g00g10");
        faulty(x, 7, "x1g10t00");
        faulty(x, 9, "x1 c10 b00");
        fine(x, 2, "x1g01g10");
    }

    @Says(in = 0, words = "a fifth STONE")
    static void fifthStoneIsAFaultAtItsLetter(Probe x) {
        fine(x, 2, "x1o1o1o1o1g10g10");
        faulty(x, 10, "x1o1o1o1o1o1g10g10");
        faulty(x, 12, "x1o1o1o1o1  o1g10g10");
        faulty(x, 10, "x1o1o1o1o1o");
    }

    @Says(in = 0, words = "a STONE behind one of PEOPLE")
    static void stoneBehindPeopleIsAFaultAtItsLetter(Probe x) {
        faulty(x, 5, "x1g10o1g10");
        faulty(x, 8, "x1g10g10o1");
        faulty(x, 9, "x1g10g10 o");
        faulty(x, 7, "x1o1g10o1g10");
    }

    @Says(in = 0, words = "a seventh one of PEOPLE: its place")
    static void seventhOfPeopleIsAFaultAtItsLetter(Probe x) {
        fine(x, 6, "x1g10g10g10g10g10g10");
        faulty(x, 20, "x1g10g10g10g10g10g10g10");
        faulty(x, 20, "x1g10g10g10g10g10g10g");
        faulty(x, 22, "x1g10g10g10g10g10g10  b00");
    }

    @Says(in = 0, words = "the TEXT's size, if its end comes too early")
    static void endThatComesTooEarlyIsTheSize(Probe x) {
        String text = "x1o2g10g20";
        for (int size = 0; size < text.length(); size++) {
            faulty(x, size, text.substring(0, size));
        }
        fine(x, 2, text);
        faulty(x, 9, "x1o2g10  ");
        faulty(x, LONGEST_TEXT, "x1g10" + " ".repeat(LONGEST_TEXT - 5));
        faulty(x, LONGEST_TEXT, "x1g10" + " ".repeat(LONGEST_TEXT - 6) + "g");
        faulty(x, LONGEST_TEXT - 1, "x1g10" + " ".repeat(LONGEST_TEXT - 6) + "?");
    }

    @Says(in = 0, words = "or there are blanks alone")
    static void blanksAloneAreTheSize(Probe x) {
        faulty(x, 1, " ");
        faulty(x, 7, "       ");
        faulty(x, LONGEST_TEXT, " ".repeat(LONGEST_TEXT));
    }

    @Says(in = 0, words = "the TEXT's size, if its end comes too early")
    static void emptyTextEndsTooEarly(Probe x) {
        faulty(x, 0, "");
    }

    // ---- ahead of the promises: KINDS, what they COUNT, SINK

    @Says(in = 0, words = {"KINDS of PEOPLE and letters: 0 GUEST (g, 103), 1 TWIN (t, 116; a GUEST), 2 CHILD (c, 99; a GUEST)",
        "3 LAME (l, 108; a GUEST), 4 CANON (n, 110; a LAME), 5 BUNDLE (b, 98; a CHILD)"})
    static void lettersTellKinds(Probe x) {
        int[] letters = {103, 116, 99, 108, 110, 98};
        StringBuilder text = new StringBuilder("x1");
        for (int letter : letters) {
            text.append((char) letter).append("10");
        }
        x.build(text.toString());
        for (int kind = 0; kind < KINDS; kind++) {
            x.told(1, kind, "one", kind, 0);
        }
    }

    @Says(in = 0, words = {"1 TWIN (t, 116; a GUEST)", "4 CANON (n, 110; a LAME)", "5 BUNDLE (b, 98; a CHILD)"})
    static void oneIsOfItsKindAndOfThoseItIsMadeOf(Probe x) {
        x.build("x1g10t10c10l10n10b10");
        int[] is = {0b000001, 0b000011, 0b000101, 0b001001, 0b011001, 0b100101};
        for (int i = 0; i < KINDS; i++) {
            for (int kind = 1; kind < KINDS; kind++) {
                if ((is[i] >> kind & 1) == 0) {
                    x.due(FINDING, "mark", i, kind);
                    x.due(UNLIKE, "finding");
                } else {
                    x.holds(i + " is of KIND " + kind, x.ask("mark", i, kind) >= 0);
                }
            }
        }
    }

    private static void countsAs(Probe x, char letter, int[] pounds, int[] counts) {
        for (int k = 0; k < pounds.length; k++) {
            Probe one = x.another();
            one.build("x9g50" + letter + pounds[k] / 10 + pounds[k] % 10);
            one.told(1, counts[k], "one", 1, 2);
            one.due(Math.abs(50 - counts[k]), "sink", 0, 1, 0, 0);
        }
    }

    @Says(in = 0, words = "One COUNTS its POUNDS")
    static void guestsAndTwinsCountTheirPounds(Probe x) {
        countsAs(x, 'g', new int[] {1, 2, 99}, new int[] {1, 2, 99});
        countsAs(x, 't', new int[] {1, 2, 99}, new int[] {1, 2, 99});
    }

    @Says(in = 0, words = "a CHILD half (cut)")
    static void childCountsHalfCut(Probe x) {
        countsAs(x, 'c', new int[] {1, 2, 3, 98, 99}, new int[] {0, 1, 1, 49, 49});
    }

    @Says(in = 0, words = "a BUNDLE half of what a CHILD of its POUNDS does (cut)")
    static void bundleCountsHalfOfAChildCut(Probe x) {
        countsAs(x, 'b', new int[] {1, 2, 3, 4, 7, 8, 99}, new int[] {0, 0, 0, 1, 1, 2, 24});
    }

    @Says(in = 0, words = "a LAME 5 more")
    static void lameCountsFiveMore(Probe x) {
        countsAs(x, 'l', new int[] {1, 2, 99}, new int[] {6, 7, 104});
    }

    @Says(in = 0, words = "a CANON as a LAME, and 1 more for each LOAF eaten (by any)")
    static void canonCountsALoafMoreUpToNine(Probe x) {
        countsAs(x, 'n', new int[] {1, 2, 99}, new int[] {6, 7, 104});
        x.build("x1g99n99n01l99c99b99");
        int[] stay = {99, 0, 0, 104, 49, 24};
        for (int eaten = 1; eaten <= 9; eaten++) {
            x.due(eaten, "loaf");
            x.told(1, 104 + eaten, "one", 1, 2);
            x.told(1, 6 + eaten, "one", 2, 2);
            for (int i : new int[] {0, 3, 4, 5}) {
                x.told(1, stay[i], "one", i, 2);
            }
        }
        x.refused(STATE, "loaf");
        x.told(1, 113, "one", 1, 2);
    }

    @Says(in = 0, words = "Of two with STONES each the stairs SINK by how much what the one COUNTS with its STONES' POUNDS differs from the other one's")
    static void stairsSinkByTheDifferenceEitherWay(Probe x) {
        x.build("x0o9o8o7o6g99n01b03");
        x.due(93, "sink", 0, 1, 0, 0);
        x.due(93, "sink", 1, 0, 0, 0);
        x.due(123, "sink", 0, 1, 15, 0);
        x.due(63, "sink", 0, 1, 0, 15);
        x.due(93 + 9 - 8 - 7 + 6, "sink", 0, 1, 9, 6);
        x.due(129, "sink", 2, 0, 0, 15);
        x.due(0, "sink", 2, 1, 8, 0);
    }

    @Says(in = 0, words = "of two TWINS by half of that (cut)")
    static void twinsSinkHalfCut(Probe x) {
        x.build("x0o1t50t50t51t53g53t99");
        x.due(0, "sink", 0, 1, 0, 0);
        x.due(0, "sink", 0, 2, 0, 0);
        x.due(0, "sink", 2, 0, 0, 0);
        x.due(1, "sink", 0, 3, 0, 0);
        x.due(2, "sink", 0, 3, 0, 1);
        x.due(1, "sink", 2, 3, 0, 0);
        x.due(24, "sink", 0, 5, 0, 0);
        x.due(3, "sink", 0, 4, 0, 0);
        x.due(3, "sink", 4, 0, 0, 0);
    }

    // ---- 10 fault

    @Says(in = 10, words = "BAD")
    static void faultOfNoTextIsBad(Probe x) {
        x.due(1, "text", 0, 1);
        x.due(1, "text", 3, 1);
        for (int t : outside(TEXTS)) {
            x.refused(BAD, "fault", t);
        }
        x.leaves(1, "fault", 0);
        x.leaves(1, "fault", 3);
    }

    @Says(in = 10, words = "NOTHING")
    static void faultOfAMissingTextIsNothing(Probe x) {
        x.found(NOTHING, "fault", 0);
        x.found(NOTHING, "fault", 3);
    }

    @Says(in = 10, words = "NONE: there is none")
    static void faultOfAFineTextIsNone(Probe x) {
        x.write(0, "x0g10g10");
        x.none("fault", 0);
        x.counts(0, 0);
        x.due(1000 + '0', "put", 0, 7, '?');
        x.leaves(7, "fault", 0);
        x.due(1000 + '?', "put", 0, 7, '9');
        x.none("fault", 0);
    }

    @Says(in = 10, words = "A FAULT of a TEXT")
    static void faultLeavesTheTowerThatStands(Probe x) {
        x.build("x3o4o9g20t30");
        x.write(1, "x0g10g10");
        x.none("fault", 1);
        x.write(1, "x0o1o1o1o1g99g99b98g");
        x.leaves(20, "fault", 1);
        x.counts(0, 2);
        x.counts(1, 2);
        x.counts(6, 3);
        x.due(6, "sink", 1, 0, 0, 1);
        x.due(3, "sink", 1, 0, 0, 3);
    }

    // ---- 11 tower

    @Says(in = 11, words = "BAD")
    static void towerByNoTextIsBad(Probe x) {
        x.write(0, "x0g10g10");
        x.write(3, "x0g10g10g10");
        for (int t : outside(TEXTS)) {
            x.refused(BAD, "tower", t);
        }
        x.due(2, "tower", 0);
        x.due(3, "tower", 3);
        for (int t : outside(TEXTS)) {
            x.refused(BAD, "tower", t);
        }
    }

    @Says(in = 11, words = "NOTHING")
    static void towerByAMissingTextIsNothing(Probe x) {
        x.found(NOTHING, "tower", 0);
        x.found(NOTHING, "tower", 3);
        x.build("x0g10g10");
        x.found(NOTHING, "tower", 3);
    }

    @Says(in = 11, words = "STATE: a FAULT")
    static void towerByAFaultIsRefusedAndLeavesAll(Probe x) {
        x.build("x3o4g20g23n16");
        x.due(3, "go", 0, 1, 0, 0);
        x.due(1, "loaf");
        x.due(2, "keep", 1);
        x.due(2, "loaf");
        x.write(1, "x9o1o1o1o1t99t99t99t99t99t0");
        x.refused(STATE, "tower", 1);
        x.due(0, "text", 2, 0);
        x.refused(STATE, "tower", 2);
        x.due(9, "text", 2, 9);
        x.refused(STATE, "tower", 2);
        x.counts(6, 3);
        x.due(1, "undo", 2);
        x.due(2, "on", 1);
        x.counts(4, 3);
        x.due(2, "undo", 0);
        x.due(7, "sink", 0, 1, 0, 1);
    }

    @Says(in = 11, words = "(STATE behind NOTHING.)")
    static void towerByAMissingTextIsNothingAheadOfState(Probe x) {
        x.refused(BAD, "tower", 4);
        x.found(NOTHING, "tower", 1);
        x.due(1, "text", 1, 1);
        x.refused(STATE, "tower", 1);
    }

    @Says(in = 11, words = "(anew: all at the FOOT, no LOAVES, no DEEDS; kept TOWERS go)")
    static void towerIsAnew(Probe x) {
        x.build("x9o4g20g23");
        x.due(7, "go", 0, 1, 0, 1);
        x.due(1, "loaf");
        for (int k = 0; k < 3; k++) {
            x.due(2, "keep", k);
        }
        x.due(2, "tower", 0);
        for (int what : new int[] {2, 3, 4, 5, 7, 12}) {
            x.counts(what, 0);
        }
        for (int k = 0; k < 3; k++) {
            x.found(NOTHING, "on", k);
        }
        x.due(0, "undo", 0);
        x.refused(BAD, "undo", 1);
    }

    @Says(in = 11, words = "how many PEOPLE")
    static void towerOfFewerAndThenMoreHasNothingOfTheOneAhead(Probe x) {
        x.write(0, "x9o9o9o9o9g99g99g99g99g99g99");
        x.write(1, "x0g10g10");
        x.due(6, "tower", 0);
        x.due(2, "tower", 1);
        x.counts(1, 0);
        x.counts(6, 0);
        x.refused(BAD, "one", 2, 0);
        x.refused(BAD, "sink", 0, 1, 1, 0);
        x.refused(BAD, "up", 4);
        x.due(6, "tower", 0);
        x.counts(1, 4);
        x.told(1, 99, "one", 5, 1);
        x.due(36, "sink", 0, 5, 15, 0);
    }

    @Says(in = 11, words = "A TOWER by a TEXT")
    static void towerStaysWhenItsTextChanges(Probe x) {
        x.build("x0g10g11");
        x.due(1000 + '1', "put", 0, 3, '9');
        x.told(1, 10, "one", 0, 1);
        x.due(0, "text", 0, 0);
        x.told(1, 10, "one", 0, 1);
        x.counts(0, 2);
    }

    // ---- 12 one

    @Says(in = 12, words = "BAD")
    static void oneOfNobodyIsBad(Probe x) {
        x.refused(BAD, "one", 0, 0);
        x.build("x0g10g11");
        x.told(1, 10, "one", 0, 1);
        x.told(1, 11, "one", 1, 1);
        for (int i : outside(2)) {
            x.refused(BAD, "one", i, 1);
        }
        x.refused(BAD, "one", 5, 1);
        Probe six = x.another();
        six.build("x0g10g11g12g13g14g15");
        six.told(1, 15, "one", 5, 1);
        six.refused(BAD, "one", 6, 1);
    }

    @Says(in = 12, words = "BAD")
    static void oneOfNothingTellableIsBad(Probe x) {
        x.build("x0t10g10");
        x.told(1, 1, "one", 0, 0);
        x.told(1, 2, "one", 0, 4);
        for (int what : outside(5)) {
            x.refused(BAD, "one", 0, what);
        }
    }

    @Says(in = 12, words = {"0 the KIND, 1 POUNDS, 2 what it COUNTS now, 3 whether it is at the TOP (1, 0)"})
    static void oneTellsKindPoundsCountsAndEnd(Probe x) {
        x.build("x0n05g10b99");
        x.told(1, 4, "one", 0, 0);
        x.told(1, 5, "one", 0, 1);
        x.told(1, 10, "one", 0, 2);
        x.told(1, 5, "one", 2, 0);
        x.told(1, 99, "one", 2, 1);
        x.told(1, 24, "one", 2, 2);
        x.told(1, 0, "one", 0, 3);
        x.due(0, "go", 0, 1, 0, 0);
        x.told(1, 1, "one", 0, 3);
        x.told(1, 1, "one", 1, 3);
        x.told(1, 0, "one", 2, 3);
        x.due(1, "loaf");
        x.told(1, 11, "one", 0, 2);
        x.told(1, 5, "one", 0, 1);
    }

    @Says(in = 12, words = "4 with whom it CAN go now (bits), told by asked(): 1")
    static void oneTellsWithWhomItCanGo(Probe x) {
        x.build("x1o4g10g11g12g15g17g16");
        x.told(1, 0b001010, "one", 0, 4);
        x.told(1, 0b100111, "one", 3, 4);
        x.due(1, "go", 0, 1, 0, 0);
        x.told(1, 0b000010, "one", 0, 4);
        x.told(1, 0b100100, "one", 3, 4);
        x.due(1, "go", 2, 3, 1, 0);
        x.told(1, 0b001010, "one", 0, 4);
        x.told(1, 0b100000, "one", 4, 4);
    }

    // ---- 13 mark

    @Says(in = 13, words = "BAD: also KIND 0")
    static void markOfNoKindIsBad(Probe x) {
        x.build("x0t10b10");
        x.due(0, "mark", 0, 1);
        x.due(3, "mark", 1, 5);
        for (int kind : new int[] {0, -1, 6, MIN, MAX}) {
            x.refused(BAD, "mark", 0, kind);
            x.refused(BAD, "mark", 1, kind);
        }
    }

    @Says(in = 13, words = "BAD")
    static void markOfNobodyIsBad(Probe x) {
        x.refused(BAD, "mark", 0, 1);
        x.build("x0t10b10");
        for (int i : outside(2)) {
            x.refused(BAD, "mark", i, 1);
        }
        x.refused(BAD, "mark", 5, 1);
    }

    @Says(in = 13, words = "UNLIKE")
    static void markOfAnotherKindIsUnlike(Probe x) {
        x.build("x0g10t10c10l10n10b10");
        int[][] unlike = {{1, 2, 3, 4, 5}, {2, 3, 4, 5}, {1, 3, 4, 5}, {1, 2, 4, 5}, {1, 2, 5}, {1, 3, 4}};
        for (int i = 0; i < KINDS; i++) {
            for (int kind : unlike[i]) {
                x.found(UNLIKE, "mark", i, kind);
            }
        }
    }

    @Says(in = 13, words = "BAD: also KIND 0; UNLIKE")
    static void markIsBadAheadOfUnlike(Probe x) {
        x.build("x0g10g10");
        x.refused(BAD, "mark", 2, 1);
        x.refused(BAD, "mark", 0, 0);
        x.refused(BAD, "mark", 0, 6);
        x.found(UNLIKE, "mark", 0, 1);
    }

    @Says(in = 13, words = "a TWIN how many other TWINS there are")
    static void onlyTwinAndSixTwins(Probe x) {
        x.build("x0t10g10");
        x.leaves(0, "mark", 0, 1);
        Probe six = x.another();
        six.build("x0t10t10t99t01t10t50");
        six.leaves(5, "mark", 0, 1);
        six.leaves(5, "mark", 5, 1);
    }

    @Says(in = 13, words = "a CHILD (BUNDLE, too) how much less it COUNTS than its POUNDS")
    static void childrenCountLessByTheGreaterHalf(Probe x) {
        x.build("x0c01c02c99b01b04b99");
        int[] less = {1, 1, 50, 1, 3, 75};
        for (int i = 0; i < 6; i++) {
            x.leaves(less[i], "mark", i, 2);
        }
    }

    @Says(in = 13, words = "a LAME (CANON, too) how many others COUNT more now")
    static void othersWhoCountJustAsMuchDoNotCountMore(Probe x) {
        x.build("x0l10g15g16n10n11c33");
        x.leaves(3, "mark", 0, 3);
        x.leaves(3, "mark", 3, 3);
        x.leaves(0, "mark", 4, 3);
        x.due(1, "loaf");
        x.leaves(4, "mark", 0, 3);
        x.leaves(1, "mark", 3, 3);
        Probe all = x.another();
        all.build("x0l01g99g99g99g99g99");
        all.leaves(5, "mark", 0, 3);
    }

    @Says(in = 13, words = "a LAME (CANON, too) how many others COUNT more now")
    static void eachOfTheOthersCountsMore(Probe x) {
        x.build("x0l10l10l10l10l10l10");
        x.leaves(0, "mark", 0, 3);
        for (int other = 0; other < 6; other++) {
            Probe one = x.another();
            StringBuilder text = new StringBuilder("x0l10l10l10l10l10l10");
            text.setCharAt(2 + 3 * other + 2, '1');
            one.build(text.toString());
            for (int i = 0; i < 6; i++) {
                one.due(i == other ? 0 : 1, "mark", i, 3);
            }
        }
    }

    @Says(in = 13, words = "a CANON how many LOAVES can be eaten yet")
    static void canonTellsNineToNoneLoaves(Probe x) {
        x.build("x0n10g10");
        for (int eaten = 0; eaten <= 9; eaten++) {
            x.due(9 - eaten, "mark", 0, 4);
            x.due(eaten < 9 ? eaten + 1 : STATE, "loaf");
        }
        x.leaves(0, "mark", 0, 4);
        x.due(9, "undo", 0);
        x.leaves(9, "mark", 0, 4);
    }

    @Says(in = 13, words = "a BUNDLE how much less it COUNTS than a CHILD of its POUNDS")
    static void bundlesCountLessThanChildrenCut(Probe x) {
        x.build("x0b01b02b03b04b06b99");
        int[] less = {0, 1, 1, 1, 2, 25};
        for (int i = 0; i < 6; i++) {
            x.leaves(less[i], "mark", i, 5);
        }
    }

    private TowerEdgesTests() {
    }
}
