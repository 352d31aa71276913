import java.util.Arrays;

/**
 * A tower in the midst of its days, with all that is told of it written down by hand: at each call a test changes here
 * what the document says, and all that is told must then be just as written, so that nothing else has changed.
 */
final class Rich {
    private static final int FINDING = -3, NOTHING = 1, UNLIKE = 3, SIZE = 5;
    private static final String TEXT = "x2o3o5g20t23t28c44n15b90";

    /** As count() tells them, but those of ROWS, TEXTS, kept TOWERS, which are counted below. */
    final long[] counts = {6, 2, 4, 2, 0b111001, 0, 2, 3, 2, 1};
    private final long[] stones = {3, 5};
    /** Of each of PEOPLE the KIND, POUNDS, what it COUNTS, whether it is at the TOP, with whom it CAN go. */
    final long[][] people = {{0, 20, 20, 1, 0b111000}, {1, 23, 23, 0, 0b000100}, {1, 28, 28, 0, 0b000010},
        {2, 44, 22, 1, 0b110001}, {4, 15, 22, 1, 0b101001}, {5, 90, 22, 1, 0b011001}};
    final long[] kept = {-1, 1, 3};
    final long[][] rows = {{7, 20, 9}, null, {1, 3}, {1}, {}, null};
    final long[][] texts = {TEXT.chars().asLongStream().toArray(), null, null, {32, 65}};
    long asked = 20;
    long upper = 3;
    long lower = 4;
    long finding = UNLIKE;
    final long[] findings = {0, 1, 2, 1, 1, 1};
    private final Probe x;

    Rich(Probe test) {
        x = test.another();
        x.build(TEXT);
        x.fill(0, 7, 20, 9);
        x.fill(2, 1, 3);
        x.fill(3, 1);
        x.fill(4);
        x.due(2, "text", 3, 2);
        x.due(1032, "put", 3, 1, 65);
        x.due(2, "go", 0, 3, 0, 0);
        x.due(1, "keep", 1);
        x.due(1, "loaf");
        x.due(1, "go", 4, 5, 0, 0);
        x.due(3, "keep", 2);
        x.due(2, "loaf");
        findEachOnce();
        x.due(1, "mid", 1, 2, 6);
        x.due(1, "at", 0, 1);
        holds("at first");
    }

    /** BEYOND twice, and UNLIKE last, so that each can be told from the others. */
    private void findEachOnce() {
        x.due(FINDING, "tear", 1);
        x.due(FINDING, "at", 0, 3);
        x.due(FINDING, "at", 0, -1);
        x.due(FINDING, "mean", 4);
        x.due(FINDING, "row", 1, -1);
        x.due(FINDING, "mark", 0, 1);
    }

    /** A call, written with blanks, that answers so, behind which all is as it is written here. */
    void due(long want, String call) {
        long got = x.asWritten(call);
        x.holds(call + " answers " + want + ", not " + got, got == want);
        holds("behind " + call);
    }

    /** A call that tells by asked(). */
    void told(long want, long told, String call) {
        asked = told;
        due(want, call);
    }

    /** A call that tells by upper(), lower(). */
    void shares(long over, long under, String call) {
        upper = over;
        lower = under;
        due(1, call);
    }

    /** A call that is refused with a FINDING. */
    void found(int latest, String call) {
        finding = latest;
        findings[latest]++;
        due(FINDING, call);
    }

    /** Calls that answer so and leave all as it is. */
    void leaves(long want, String... calls) {
        for (String call : calls) {
            due(want, call);
        }
    }

    /** What the PEOPLE COUNT, who of them is at the TOP, and with whom they CAN go, is now this. */
    void peopleAre(long top, long canonCounts, long... companions) {
        counts[4] = top;
        people[4][2] = canonCounts;
        for (int i = 0; i < people.length; i++) {
            people[i][3] = top >> i & 1;
            people[i][4] = companions[i];
        }
    }

    /** The DEEDS are so many now, with so many LOAVES and steps. */
    void deedsAre(long many, long loaves, long steps) {
        counts[2] = many;
        counts[3] = loaves;
        counts[7] = steps;
    }

    private void holds(String when) {
        is(digest(), when, "digest");
        is(asked, when, "asked");
        is(upper, when, "upper");
        is(lower, when, "lower");
        is(finding, when, "finding");
        for (int f = NOTHING; f <= SIZE; f++) {
            is(findings[f], when, "findings", f);
        }
    }

    private void is(long want, String when, String name, int... arguments) {
        long got = x.ask(name, arguments);
        x.holds(name + Arrays.toString(arguments) + " is " + want + " " + when + ", not " + got, got == want);
    }

    private long digest() {
        long h = with(17, counts);
        h = with(h, there(rows), there(texts), Arrays.stream(kept).filter(done -> done >= 0).count());
        h = with(h, stones);
        for (long[] one : people) {
            h = with(h, one);
        }
        return rowsTold(rowsTold(with(h, kept), rows), texts);
    }

    private static long there(long[][] some) {
        return Arrays.stream(some).filter(row -> row != null).count();
    }

    private static long rowsTold(long before, long[][] some) {
        long h = before;
        for (long[] row : some) {
            h = row == null ? 31 * h - 1 : with(with(h, row.length), row);
        }
        return h;
    }

    private static long with(long before, long... values) {
        long h = before;
        for (long v : values) {
            h = 31 * h + v;
        }
        return h;
    }
}
