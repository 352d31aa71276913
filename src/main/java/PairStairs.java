import java.util.Arrays;

/** Stairs that bear people only two by two and of like weight; ../shared/DOC.md says what it promises. */
public final class PairStairs {
    public static final int BAD = -1, FULL = -2, FINDING = -3, STATE = -4, SPENT = -6, NONE = -9;

    private static final int NOTHING = 1, BEYOND = 2, UNLIKE = 3, NOUGHT = 4, SIZE = 5;
    private static final int GUEST = 0, TWIN = 1, CHILD = 2, LAME = 3, CANON = 4, BUNDLE = 5, KINDS = 6;
    private static final int BLANK = 32;
    private static final int MOST_PEOPLE = 6, MOST_STONES = 4, MOST_DEEDS = 40, MOST_LOAVES = 9, MOST_POUNDS = 99;
    private static final int MOST_SANK = 200, MOST_WEIGHED = 16, MOST_TURNS = 2, MOST_LOTS = 20, TWELVE = 12;
    private static final int PLACES = 3;
    /** More than any steps and sets of STONES come to. */
    private static final int FAR = 1 << 30;
    private static final long LOTS_TIMES = 48271L, LOTS_MODULO = 2147483647L;
    /** For each KIND the bits of the KINDS that one of it IS. */
    private static final int[] IS = {0b000001, 0b000011, 0b000101, 0b001001, 0b011001, 0b100101};

    private final Shelf rows;
    private final Shelf texts;
    private final Deeds deeds;
    private final Deeds[] kept;
    private final boolean[] isKept;
    private final Ways ways;
    private final int[] findingTimes;
    private Plan plan;
    private Plan draft;
    private int latestFinding;
    private int told;
    private long above;
    private long below;

    public PairStairs() {
        rows = new Shelf(6, 40, 0);
        texts = new Shelf(4, 60, BLANK);
        deeds = new Deeds();
        kept = new Deeds[PLACES];
        for (int k = 0; k < PLACES; k++) {
            kept[k] = new Deeds();
        }
        isKept = new boolean[PLACES];
        ways = new Ways();
        findingTimes = new int[SIZE + 1];
        plan = new Plan();
        draft = new Plan();
        below = 1;
    }

    // ---- 1 rows, texts, towers

    public int row(int r, int n) {
        return renewed(rows, r, n);
    }

    public int lay(int r, int i, int v) {
        int refused = refusedPlace(rows, r, i);
        if (refused != 0) {
            return refused;
        }
        told = rows.places[r][i];
        rows.places[r][i] = v;
        return 1;
    }

    public int at(int r, int i) {
        int refused = refusedPlace(rows, r, i);
        if (refused != 0) {
            return refused;
        }
        told = rows.places[r][i];
        return 1;
    }

    public int tear(int r) {
        int refused = refusedRow(rows, r);
        if (refused != 0) {
            return refused;
        }
        rows.sizes[r] = Shelf.MISSING;
        return 1;
    }

    public int copy(int r, int i, int to, int j, int n) {
        if (rows.hasNo(r) || rows.hasNo(to)) {
            return BAD;
        }
        if (n < 0) {
            return found(SIZE);
        }
        if (rows.isMissing(r) || rows.isMissing(to)) {
            return found(NOTHING);
        }
        if (rows.lacks(r, i, n) || rows.lacks(to, j, n)) {
            return found(BEYOND);
        }
        System.arraycopy(rows.places[r], i, rows.places[to], j, n);
        return 1;
    }

    public int mean(int r) {
        int refused = refusedRow(rows, r);
        if (refused != 0) {
            return refused;
        }
        if (rows.sizes[r] == 0) {
            return found(NOUGHT);
        }
        told = (int) (rows.sum(r) / rows.sizes[r]);
        return 1;
    }

    public int text(int t, int n) {
        return renewed(texts, t, n);
    }

    public int put(int t, int i, int v) {
        int refused = refusedPlace(texts, t, i);
        if (refused != 0) {
            return refused;
        }
        int before = texts.places[t][i];
        texts.places[t][i] = (byte) v;
        return before + 1000;
    }

    public int fault(int t) {
        int refused = refusedRow(texts, t);
        return refused != 0 ? refused : draft.read(texts.places[t], texts.sizes[t]);
    }

    public int tower(int t) {
        int refused = refusedRow(texts, t);
        if (refused != 0) {
            return refused;
        }
        if (draft.read(texts.places[t], texts.sizes[t]) != NONE) {
            return STATE;
        }
        Plan before = plan;
        plan = draft;
        draft = before;
        deeds.done = 0;
        for (int k = 0; k < PLACES; k++) {
            isKept[k] = false;
        }
        return plan.people;
    }

    public int one(int i, int what) {
        if (isNobody(i) || what < 0 || what > 4) {
            return BAD;
        }
        told = about(i, what);
        return 1;
    }

    public int mark(int i, int kind) {
        if (isNobody(i) || kind < TWIN || kind > BUNDLE) {
            return BAD;
        }
        if ((IS[plan.kind[i]] >> kind & 1) == 0) {
            return found(UNLIKE);
        }
        switch (kind) {
            case TWIN:
                return plan.howMany(TWIN) - 1;
            case CHILD:
                return plan.weight[i] - counts(i);
            case LAME:
                return heavier(i);
            case CANON:
                return MOST_LOAVES - deeds.eaten();
            default:
                return counted(CHILD, plan.weight[i], 0) - counts(i);
        }
    }

    // ---- 2 deeds

    public int go(int i, int j, int stones, int others) {
        if (isNoPair(i, j) || areNoSets(stones, others)) {
            return BAD;
        }
        if (areApart(i, j) || ((stones | others) & ~stonesWith(i)) != 0) {
            return STATE;
        }
        int steps = steps(i, j, stones, others);
        if (steps > plan.limit) {
            return SPENT;
        }
        if (deeds.done >= MOST_DEEDS) {
            return FULL;
        }
        deeds.add(1 << i | 1 << j, stones | others, 0, steps);
        return steps;
    }

    public int loaf() {
        if (plan.people == 0 || deeds.eaten() >= MOST_LOAVES) {
            return STATE;
        }
        if (deeds.done >= MOST_DEEDS) {
            return FULL;
        }
        deeds.add(0, 0, 1, 0);
        return deeds.eaten();
    }

    public int undo(int n) {
        if (n < 0 || n > deeds.done) {
            return BAD;
        }
        int undone = deeds.done - n;
        deeds.done = n;
        return undone;
    }

    public int keep(int k) {
        if (k < 0 || k >= PLACES) {
            return BAD;
        }
        if (plan.people == 0) {
            return STATE;
        }
        kept[k].become(deeds);
        isKept[k] = true;
        return deeds.done;
    }

    public int on(int k) {
        if (k < 0 || k >= PLACES) {
            return BAD;
        }
        if (!isKept[k]) {
            return found(NOTHING);
        }
        deeds.become(kept[k]);
        return deeds.done;
    }

    // ---- 3 who with whom (aside)

    public int sink(int i, int j, int stones, int others) {
        if (isNoPair(i, j) || areNoSets(stones, others)) {
            return BAD;
        }
        return steps(i, j, stones, others);
    }

    public int best(int i, int j) {
        if (isNoPair(i, j)) {
            return BAD;
        }
        if (areApart(i, j)) {
            return STATE;
        }
        int least = least(i, j, stonesWith(i));
        told = least % 256;
        return least / 256;
    }

    public int pairs() {
        told = firstPair();
        return pairsWithout(0);
    }

    public int match() {
        if (plan.people == 0) {
            return STATE;
        }
        findWays();
        told = ways.paired(deeds.top(), deeds.stonesUp(), plan.allStones());
        return Integer.bitCount(told) / 2;
    }

    public int waits(int i) {
        if (isNobody(i)) {
            return BAD;
        }
        int own = counts(i);
        int stones = stonesWith(i);
        for (int p = 1; p <= MOST_POUNDS; p++) {
            if (plan.least(own - p, false, stones) / 256 <= plan.limit) {
                return p;
            }
        }
        return NONE;
    }

    public int worth() {
        if (plan.people == 0) {
            return STATE;
        }
        if (plan.stones == 0) {
            return NONE;
        }
        int stone = 0;
        int fewest = pairsWithout(1);
        for (int s = 1; s < plan.stones; s++) {
            int left = pairsWithout(1 << s);
            if (left < fewest) {
                stone = s;
                fewest = left;
            }
        }
        told = pairsWithout(0) - fewest;
        return stone;
    }

    public int loaves(int i, int j) {
        if (isNoPair(i, j)) {
            return BAD;
        }
        if (areApart(i, j)) {
            return STATE;
        }
        for (int more = 0; more <= MOST_LOAVES - deeds.eaten(); more++) {
            if (plan.steps(i, j, 0, 0, deeds.eaten() + more) <= plan.limit) {
                return more;
            }
        }
        return NONE;
    }

    // ---- 4 goes to come

    public int up(int set) {
        return isNoGroup(set) ? BAD : fewestGoes(set, set);
    }

    public int down(int set) {
        return isNoGroup(set) ? BAD : fewestGoes(set, 0);
    }

    public int ever() {
        if (plan.people == 0) {
            return STATE;
        }
        spread();
        return ways.moved(deeds.top());
    }

    // ---- 5 by how far it sank

    public int pounds(int i, int r) {
        int refused = refusedWeighing(i, r);
        if (refused != 0) {
            return refused;
        }
        int many = 0;
        told = NONE;
        for (int p = MOST_POUNDS; p >= 1; p--) {
            if (fits(plan.kind[i], p, r)) {
                many++;
                told = p;
            }
        }
        return many;
    }

    public int kinds(int i, int r) {
        int refused = refusedWeighing(i, r);
        return refused != 0 ? refused : fittingKinds(i, r);
    }

    public int next(int i, int r) {
        int refused = refusedWeighing(i, r);
        if (refused != 0) {
            return refused;
        }
        int kinds = fittingKinds(i, r);
        if (kinds == 0) {
            return NONE;
        }
        int with = NONE;
        int least = KINDS + 1;
        for (int j = 0; j < plan.people; j++) {
            int part = j == i ? KINDS + 1 : greatestPart(plan.weight[i], kinds, j);
            if (part < least) {
                with = j;
                least = part;
            }
        }
        told = least;
        return with;
    }

    // ---- 6 by turns

    public int send(int n) {
        if (n < 0 || n > MOST_TURNS) {
            return BAD;
        }
        if (plan.people == 0) {
            return STATE;
        }
        findWays();
        return ways.byTurns(2 * n, deeds.top());
    }

    // ---- 7 chances, lots

    public int odds(int i, int j, int p) {
        if (isNoPair(i, j) || p < 0 || p > TWELVE) {
            return BAD;
        }
        if (areApart(i, j)) {
            return STATE;
        }
        long sum = 0;
        for (int left = 0; left <= plan.allStones(); left++) {
            if (least(i, j, left) / 256 <= plan.limit) {
                sum += chance(stonesWith(i), left, p);
            }
        }
        tell(sum, power(TWELVE, Integer.bitCount(stonesWith(i))));
        return 1;
    }

    public int mid(int i, int j, int p) {
        if (isNoPair(i, j) || p < 0 || p > TWELVE) {
            return BAD;
        }
        if (areApart(i, j)) {
            return STATE;
        }
        long sum = 0;
        for (int left = 0; left <= plan.allStones(); left++) {
            sum += chance(stonesWith(i), left, p) * (least(i, j, left) / 256);
        }
        tell(sum, power(TWELVE, Integer.bitCount(stonesWith(i))));
        return 1;
    }

    public int lots(int n, int seed) {
        if (n < 1 || n > MOST_LOTS || seed < 1 || seed >= LOTS_MODULO) {
            return BAD;
        }
        if (plan.people == 0) {
            return STATE;
        }
        if (deeds.done + n > MOST_DEEDS) {
            return FULL;
        }
        long lot = seed;
        for (int k = 0; k < n; k++) {
            lot = lot * LOTS_TIMES % LOTS_MODULO;
            doByLot(lot);
        }
        return Integer.bitCount(deeds.top());
    }

    // ---- 8 what is told

    public int asked() {
        return told;
    }

    public long upper() {
        return above;
    }

    public long lower() {
        return below;
    }

    public int count(int what) {
        switch (what) {
            case 0:
                return plan.people;
            case 1:
                return plan.stones;
            case 2:
                return deeds.done;
            case 3:
                return deeds.eaten();
            case 4:
                return deeds.top();
            case 5:
                return deeds.stonesUp();
            case 6:
                return plan.limit;
            case 7:
                return deeds.stepsSunk();
            case 8:
                return plan.howMany(CHILD);
            case 9:
                return plan.howMany(LAME);
            case 10:
                return rows.howMany();
            case 11:
                return texts.howMany();
            case 12:
                return howManyKept();
            default:
                return BAD;
        }
    }

    public int finding() {
        return latestFinding;
    }

    public int findings(int f) {
        return f < NOTHING || f > SIZE ? BAD : findingTimes[f];
    }

    public long digest() {
        long h = 17;
        for (int what = 0; what <= 12; what++) {
            h = 31 * h + count(what);
        }
        for (int s = 0; s < plan.stones; s++) {
            h = 31 * h + plan.stoneWeight[s];
        }
        for (int i = 0; i < plan.people; i++) {
            for (int what = 0; what <= 4; what++) {
                h = 31 * h + about(i, what);
            }
        }
        for (int k = 0; k < PLACES; k++) {
            h = 31 * h + (isKept[k] ? kept[k].done : -1);
        }
        return texts.digested(rows.digested(h));
    }

    // ---- what the calls share

    private int found(int finding) {
        latestFinding = finding;
        findingTimes[finding]++;
        return FINDING;
    }

    private int renewed(Shelf shelf, int r, int n) {
        if (shelf.hasNo(r) || n > shelf.most) {
            return BAD;
        }
        if (n < 0) {
            return found(SIZE);
        }
        shelf.renew(r, n);
        return n;
    }

    /** What a call about a row is refused with; 0: it is not. */
    private int refusedRow(Shelf shelf, int r) {
        if (shelf.hasNo(r)) {
            return BAD;
        }
        return shelf.isMissing(r) ? found(NOTHING) : 0;
    }

    /** What a call about a place of a row is refused with; 0: it is not. */
    private int refusedPlace(Shelf shelf, int r, int i) {
        int refused = refusedRow(shelf, r);
        return refused == 0 && shelf.lacks(r, i, 1) ? found(BEYOND) : refused;
    }

    private boolean isNobody(int i) {
        return i < 0 || i >= plan.people;
    }

    private boolean isNoPair(int i, int j) {
        return isNobody(i) || isNobody(j) || i == j;
    }

    private boolean isNoGroup(int set) {
        return set < 0 || set >= 1 << plan.people;
    }

    private boolean areNoSets(int stones, int others) {
        int all = plan.allStones();
        return stones < 0 || stones > all || others < 0 || others > all || (stones & others) != 0;
    }

    private boolean areApart(int i, int j) {
        return (deeds.top() >> i & 1) != (deeds.top() >> j & 1);
    }

    /** The STONES at the end at which one is. */
    private int stonesWith(int i) {
        int up = deeds.stonesUp();
        return (deeds.top() >> i & 1) == 1 ? up : plan.allStones() & ~up;
    }

    private int counts(int i) {
        return counted(plan.kind[i], plan.weight[i], deeds.eaten());
    }

    private int steps(int i, int j, int stones, int others) {
        return plan.steps(i, j, stones, others, deeds.eaten());
    }

    /** 256 times the least by which two SINK with some of the STONES, and with which (16 times a set, and one). */
    private int least(int i, int j, int stones) {
        return plan.least(counts(i) - counts(j), plan.areTwins(i, j), stones);
    }

    /** Whether two CAN go, without the STONES that are lost. */
    private boolean canGo(int i, int j, int lost) {
        return !areApart(i, j) && least(i, j, stonesWith(i) & ~lost) / 256 <= plan.limit;
    }

    private int companions(int i) {
        int bits = 0;
        for (int j = 0; j < plan.people; j++) {
            if (j != i && canGo(i, j, 0)) {
                bits |= 1 << j;
            }
        }
        return bits;
    }

    private int firstPair() {
        for (int i = 0; i < plan.people; i++) {
            for (int j = i + 1; j < plan.people; j++) {
                if (canGo(i, j, 0)) {
                    return 6 * i + j;
                }
            }
        }
        return NONE;
    }

    private int pairsWithout(int lost) {
        int many = 0;
        for (int i = 0; i < plan.people; i++) {
            for (int j = i + 1; j < plan.people; j++) {
                many += canGo(i, j, lost) ? 1 : 0;
            }
        }
        return many;
    }

    private int heavier(int i) {
        int many = 0;
        for (int j = 0; j < plan.people; j++) {
            many += counts(j) > counts(i) ? 1 : 0;
        }
        return many;
    }

    private int about(int i, int what) {
        switch (what) {
            case 0:
                return plan.kind[i];
            case 1:
                return plan.weight[i];
            case 2:
                return counts(i);
            case 3:
                return deeds.top() >> i & 1;
            default:
                return companions(i);
        }
    }

    private int howManyKept() {
        int many = 0;
        for (int k = 0; k < PLACES; k++) {
            many += isKept[k] ? 1 : 0;
        }
        return many;
    }

    private void findWays() {
        ways.people = plan.people;
        for (int i = 0; i < plan.people; i++) {
            for (int j = i + 1; j < plan.people; j++) {
                ways.open[6 * i + j] = plan.openSets(counts(i) - counts(j), plan.areTwins(i, j));
            }
        }
    }

    private void spread() {
        findWays();
        ways.spread(deeds.top(), deeds.stonesUp(), plan.allStones());
    }

    private int fewestGoes(int set, int top) {
        spread();
        int nearest = ways.nearest(set, top);
        if (nearest == NONE) {
            return NONE;
        }
        told = ways.distance[nearest] == 0 ? NONE : ways.first[nearest];
        return ways.distance[nearest];
    }

    /** What a call of section 5 is refused with; 0: it is not. */
    private int refusedWeighing(int i, int r) {
        if (isNobody(i)) {
            return BAD;
        }
        int refused = refusedRow(rows, r);
        if (refused != 0) {
            return refused;
        }
        int size = rows.sizes[r];
        if (size % 2 != 0 || size > MOST_WEIGHED) {
            return found(SIZE);
        }
        for (int k = 0; k + 1 < size; k += 2) {
            int other = rows.places[r][k];
            int sank = rows.places[r][k + 1];
            if (isNobody(other) || other == i || sank < 0 || sank > MOST_SANK) {
                return found(UNLIKE);
            }
        }
        return 0;
    }

    private boolean fits(int kind, int pounds, int r) {
        for (int k = 0; k + 1 < rows.sizes[r]; k += 2) {
            if (stepsAs(kind, pounds, rows.places[r][k]) != rows.places[r][k + 1]) {
                return false;
            }
        }
        return true;
    }

    /** By how much the stairs SINK under one of a KIND and POUNDS, and one of PEOPLE, without STONES. */
    private int stepsAs(int kind, int pounds, int j) {
        int ahead = counted(kind, pounds, deeds.eaten()) - counts(j);
        return sunk(ahead, kind == TWIN && plan.kind[j] == TWIN);
    }

    private int fittingKinds(int i, int r) {
        int bits = 0;
        for (int kind = 0; kind < KINDS; kind++) {
            if (fits(kind, plan.weight[i], r)) {
                bits |= 1 << kind;
            }
        }
        return bits;
    }

    /** How many of the KINDS at most sink alike with one of PEOPLE. */
    private int greatestPart(int pounds, int kinds, int j) {
        int greatest = 0;
        for (int kind = 0; kind < KINDS; kind++) {
            int part = 0;
            for (int like = 0; like < KINDS; like++) {
                boolean both = (kinds >> kind & 1) == 1 && (kinds >> like & 1) == 1;
                if (both && stepsAs(kind, pounds, j) == stepsAs(like, pounds, j)) {
                    part++;
                }
            }
            greatest = Math.max(greatest, part);
        }
        return greatest;
    }

    /** In how many of 12 to the number of STONES cases just some of them are left; 0 if these are not among them. */
    private static long chance(int stones, int left, int p) {
        if ((left & ~stones) != 0) {
            return 0;
        }
        return power(TWELVE - p, Integer.bitCount(left)) * power(p, Integer.bitCount(stones & ~left));
    }

    private static long power(int base, int times) {
        long product = 1;
        for (int k = 0; k < times; k++) {
            product *= base;
        }
        return product;
    }

    private void tell(long over, long under) {
        long common = over;
        long rest = under;
        for (int k = 0; k < 1000000 && rest != 0; k++) {
            long next = common % rest;
            common = rest;
            rest = next;
        }
        if (common == 0) {
            return;
        }
        above = over / common;
        below = under / common;
    }

    private void doByLot(long lot) {
        if (lot / 8 % 4 == 0) {
            deeds.add(0, 0, deeds.eaten() < MOST_LOAVES ? 1 : 0, 0);
            return;
        }
        int i = (int) (lot % plan.people);
        int j = (int) (lot / 64 % plan.people);
        int least = i == j || areApart(i, j) ? FAR : least(i, j, stonesWith(i));
        if (least / 256 > plan.limit) {
            deeds.add(0, 0, 0, 0);
            return;
        }
        int stones = least % 256 / 16 | least % 16;
        deeds.add(1 << i | 1 << j, stones, 0, least / 256);
    }

    private static int counted(int kind, int pounds, int loaves) {
        switch (kind) {
            case CHILD:
                return pounds / 2;
            case LAME:
                return pounds + 5;
            case CANON:
                return pounds + 5 + loaves;
            case BUNDLE:
                return pounds / 2 / 2;
            default:
                return pounds;
        }
    }

    private static int sunk(int ahead, boolean twins) {
        int steps = Math.abs(ahead);
        return twins ? steps / 2 : steps;
    }

    /** Rows of numbers, each with its size, some of them missing. */
    private static final class Shelf {
        static final int MISSING = -1;
        final int many;
        final int most;
        final int[][] places;
        final int[] sizes;
        private final int filling;

        Shelf(int many, int most, int filling) {
            this.many = many;
            this.most = most;
            this.filling = filling;
            places = new int[many][most];
            sizes = new int[many];
            Arrays.fill(sizes, MISSING);
        }

        boolean hasNo(int r) {
            return r < 0 || r >= many;
        }

        boolean isMissing(int r) {
            return sizes[r] == MISSING;
        }

        /** Whether n places from one on are not all there. */
        boolean lacks(int r, int i, int n) {
            return i < 0 || i > sizes[r] || n > sizes[r] - i;
        }

        void renew(int r, int n) {
            sizes[r] = n;
            Arrays.fill(places[r], filling);
        }

        long sum(int r) {
            long sum = 0;
            for (int i = 0; i < sizes[r]; i++) {
                sum += places[r][i];
            }
            return sum;
        }

        int howMany() {
            int there = 0;
            for (int r = 0; r < many; r++) {
                there += isMissing(r) ? 0 : 1;
            }
            return there;
        }

        long digested(long before) {
            long h = before;
            for (int r = 0; r < many; r++) {
                h = 31 * h + sizes[r];
                for (int i = 0; i < sizes[r]; i++) {
                    h = 31 * h + places[r][i];
                }
            }
            return h;
        }
    }

    /** What a TEXT says: the LIMIT, the STONES, the PEOPLE. */
    private static final class Plan {
        private static final int AHEAD = 0, LIMIT = 1, BETWEEN = 2, STONE = 3, TENS = 4, ONES = 5;
        private static final int LEAST_PEOPLE = 2;
        int limit;
        int stones;
        int people;
        final int[] stoneWeight = new int[MOST_STONES];
        final int[] setWeight = new int[1 << MOST_STONES];
        final int[] kind = new int[MOST_PEOPLE];
        final int[] weight = new int[MOST_PEOPLE];
        private int awaited;
        private int tens;

        /** Becomes what the TEXT says: NONE, or the FAULT by which it says nothing. */
        int read(int[] places, int size) {
            stones = 0;
            people = 0;
            awaited = AHEAD;
            for (int i = 0; i < size; i++) {
                if (!takes(places[i])) {
                    return i;
                }
            }
            if (awaited != BETWEEN || people < LEAST_PEOPLE) {
                return size;
            }
            weighSets();
            return NONE;
        }

        private boolean takes(int sign) {
            int figure = sign - '0';
            boolean isFigure = figure >= 0 && figure <= 9;
            switch (awaited) {
                case AHEAD:
                    return takesAhead(sign);
                case LIMIT:
                    return isFigure && takesLimit(figure);
                case BETWEEN:
                    return sign == BLANK || takesLetter(sign);
                case STONE:
                    return isFigure && takesStone(figure);
                case TENS:
                    return isFigure && takesTens(figure);
                default:
                    return isFigure && takesPounds(10 * tens + figure);
            }
        }

        private boolean takesAhead(int sign) {
            if (sign == 'x') {
                awaited = LIMIT;
            }
            return sign == 'x' || sign == BLANK;
        }

        private boolean takesLimit(int figure) {
            limit = figure;
            awaited = BETWEEN;
            return true;
        }

        private boolean takesLetter(int sign) {
            if (sign == 'o') {
                awaited = STONE;
                return people == 0 && stones < MOST_STONES;
            }
            int letter = kindOf(sign);
            if (letter == NONE || people >= MOST_PEOPLE) {
                return false;
            }
            kind[people] = letter;
            awaited = TENS;
            return true;
        }

        private boolean takesStone(int figure) {
            if (figure == 0) {
                return false;
            }
            stoneWeight[stones] = figure;
            stones++;
            awaited = BETWEEN;
            return true;
        }

        private boolean takesTens(int figure) {
            tens = figure;
            awaited = ONES;
            return true;
        }

        private boolean takesPounds(int pounds) {
            if (pounds == 0) {
                return false;
            }
            weight[people] = pounds;
            people++;
            awaited = BETWEEN;
            return true;
        }

        private static int kindOf(int sign) {
            switch (sign) {
                case 'g':
                    return GUEST;
                case 't':
                    return TWIN;
                case 'c':
                    return CHILD;
                case 'l':
                    return LAME;
                case 'n':
                    return CANON;
                case 'b':
                    return BUNDLE;
                default:
                    return NONE;
            }
        }

        private void weighSets() {
            for (int set = 0; set <= allStones(); set++) {
                setWeight[set] = 0;
                for (int s = 0; s < stones; s++) {
                    setWeight[set] += (set >> s & 1) * stoneWeight[s];
                }
            }
        }

        int allStones() {
            return (1 << stones) - 1;
        }

        int howMany(int of) {
            int many = 0;
            for (int i = 0; i < people; i++) {
                many += IS[kind[i]] >> of & 1;
            }
            return many;
        }

        boolean areTwins(int i, int j) {
            return kind[i] == TWIN && kind[j] == TWIN;
        }

        int steps(int i, int j, int set, int others, int loaves) {
            int own = counted(kind[i], weight[i], loaves) + setWeight[set];
            int other = counted(kind[j], weight[j], loaves) + setWeight[others];
            return sunk(own - other, areTwins(i, j));
        }

        /** As PairStairs.least, under two of whom one COUNTS so much more. */
        int least(int ahead, boolean twins, int free) {
            int least = FAR;
            for (int set = 0; set <= allStones(); set++) {
                for (int others = 0; others <= allStones() && (set & ~free) == 0; others++) {
                    if ((others & (set | ~free)) == 0) {
                        int steps = sunk(ahead + setWeight[set] - setWeight[others], twins);
                        least = Math.min(least, 256 * steps + 16 * set + others);
                    }
                }
            }
            return least;
        }

        /** The sets of STONES (a bit for each) that two of whom one COUNTS so much more can take along. */
        int openSets(int ahead, boolean twins) {
            int open = 0;
            for (int set = 0; set <= allStones(); set++) {
                for (int others = 0; others <= allStones(); others++) {
                    int more = ahead + setWeight[set] - setWeight[others];
                    if ((set & others) == 0 && sunk(more, twins) <= limit) {
                        open |= 1 << (set | others);
                    }
                }
            }
            return open;
        }
    }

    /** What has been done: who and what is where, ahead of any DEED and behind each. */
    private static final class Deeds {
        int done;
        private final int[] people = new int[MOST_DEEDS + 1];
        private final int[] stones = new int[MOST_DEEDS + 1];
        private final int[] loaves = new int[MOST_DEEDS + 1];
        private final int[] sank = new int[MOST_DEEDS + 1];

        int top() {
            return people[done];
        }

        int stonesUp() {
            return stones[done];
        }

        int eaten() {
            return loaves[done];
        }

        int stepsSunk() {
            return sank[done];
        }

        void add(int movedPeople, int movedStones, int eaten, int steps) {
            if (done >= MOST_DEEDS) {
                return;
            }
            people[done + 1] = people[done] ^ movedPeople;
            stones[done + 1] = stones[done] ^ movedStones;
            loaves[done + 1] = loaves[done] + eaten;
            sank[done + 1] = sank[done] + steps;
            done++;
        }

        void become(Deeds other) {
            done = other.done;
            System.arraycopy(other.people, 0, people, 0, done + 1);
            System.arraycopy(other.stones, 0, stones, 0, done + 1);
            System.arraycopy(other.loaves, 0, loaves, 0, done + 1);
            System.arraycopy(other.sank, 0, sank, 0, done + 1);
        }
    }

    /** Where GOES can lead. A place is who is at the TOP (6 bits), and 64 times which STONES are. */
    private static final class Ways {
        private static final int PEOPLE = 1 << MOST_PEOPLE, STONES = 1 << MOST_STONES, ALL = PEOPLE * STONES;
        int people;
        /** By 6 times the lesser one and the other: the sets of STONES with which they can GO (a bit for each). */
        final int[] open = new int[MOST_PEOPLE * MOST_PEOPLE];
        final int[] distance = new int[ALL];
        final int[] first = new int[ALL];
        private final int[] line = new int[ALL];
        private int lineEnd;
        private final int[] taken = new int[PEOPLE];
        private final int[][] values = new int[2 * MOST_TURNS + 1][PEOPLE];

        private static boolean areTogether(int top, int i, int j) {
            return (top >> i & 1) == (top >> j & 1);
        }

        private static int stonesAt(int top, int i, int stonesUp, int all) {
            return (top >> i & 1) == 1 ? stonesUp : all & ~stonesUp;
        }

        void spread(int top, int stonesUp, int allStones) {
            Arrays.fill(distance, NONE);
            int start = top + PEOPLE * stonesUp;
            distance[start] = 0;
            first[start] = NONE;
            line[0] = start;
            lineEnd = 1;
            for (int k = 0; k < lineEnd && k < ALL; k++) {
                leave(line[k], allStones);
            }
        }

        private void leave(int place, int allStones) {
            int top = place % PEOPLE;
            for (int i = 0; i < people; i++) {
                for (int j = i + 1; j < people; j++) {
                    if (areTogether(top, i, j)) {
                        leaveBy(place, 6 * i + j, stonesAt(top, i, place / PEOPLE, allStones));
                    }
                }
            }
        }

        private void leaveBy(int place, int pair, int free) {
            int moved = place ^ (1 << pair / 6 | 1 << pair % 6);
            int by = distance[place] == 0 ? pair : first[place];
            int sets = open[pair];
            for (int set = 0; set < STONES && sets >> set != 0; set++) {
                if ((sets >> set & 1) == 1 && (set & ~free) == 0) {
                    reach(moved ^ PEOPLE * set, distance[place] + 1, by);
                }
            }
        }

        private void reach(int place, int far, int by) {
            if (distance[place] == NONE && lineEnd < ALL) {
                distance[place] = far;
                first[place] = by;
                line[lineEnd] = place;
                lineEnd++;
            }
        }

        /**
         * The nearest place where of a set just these are at the TOP, of like ones the one with the least first GO:
         * as pairs are tried in their order, the line holds the places in just this order.
         */
        int nearest(int set, int top) {
            for (int k = 0; k < lineEnd && k < ALL; k++) {
                if ((line[k] & set) == top) {
                    return line[k];
                }
            }
            return NONE;
        }

        /** Who is elsewhere in some place that can be reached. */
        int moved(int top) {
            int bits = 0;
            for (int k = 0; k < lineEnd && k < ALL; k++) {
                bits |= line[k] % PEOPLE ^ top;
            }
            return bits;
        }

        /** The most PEOPLE (of like many the least number) who can go in pairs all at once. */
        int paired(int top, int stonesUp, int allStones) {
            Arrays.fill(taken, 0);
            taken[0] = 1;
            int most = 0;
            for (int group = 0; group < 1 << people; group++) {
                if (taken[group] != 0) {
                    join(group, top, stonesUp, allStones);
                    most = Integer.bitCount(group) > Integer.bitCount(most) ? group : most;
                }
            }
            return most;
        }

        private void join(int group, int top, int stonesUp, int allStones) {
            for (int i = 0; i < people; i++) {
                for (int j = i + 1; j < people; j++) {
                    int pair = 1 << i | 1 << j;
                    if ((group & pair) == 0 && areTogether(top, i, j)) {
                        int free = stonesAt(top, i, stonesUp, allStones);
                        taken[group | pair] |= joined(taken[group], open[6 * i + j], free);
                    }
                }
            }
        }

        /** The sets of STONES that are taken when to each of some sets one that is open and free is added. */
        private static int joined(int sets, int open, int free) {
            int joined = 0;
            for (int set = 0; set < STONES; set++) {
                if ((sets >> set & 1) == 1) {
                    joined |= added(set, open, free & ~set);
                }
            }
            return joined;
        }

        /** The sets of STONES that are taken when one that is open and free is added to a set. */
        private static int added(int set, int open, int free) {
            int added = 0;
            for (int more = 0; more < STONES && open >> more != 0; more++) {
                if ((open >> more & 1) == 1 && (more & ~free) == 0) {
                    added |= 1 << (set | more);
                }
            }
            return added;
        }

        /** How many are at the TOP after so many turns without STONES, the first wanting many, the other few. */
        int byTurns(int turns, int top) {
            for (int group = 0; group < PEOPLE; group++) {
                values[0][group] = Integer.bitCount(group);
            }
            for (int left = 1; left <= turns && left < values.length; left++) {
                for (int group = 0; group < PEOPLE; group++) {
                    values[left][group] = wanted(values[left - 1], group, left % 2 == 0);
                }
            }
            return values[turns][top];
        }

        private int wanted(int[] later, int group, boolean many) {
            int wanted = later[group];
            for (int i = 0; i < people; i++) {
                for (int j = i + 1; j < people; j++) {
                    if (areTogether(group, i, j) && (open[6 * i + j] & 1) == 1) {
                        int other = later[group ^ (1 << i | 1 << j)];
                        wanted = many ? Math.max(wanted, other) : Math.min(wanted, other);
                    }
                }
            }
            return wanted;
        }
    }
}
