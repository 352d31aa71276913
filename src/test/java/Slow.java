import java.math.BigInteger;
import java.util.ArrayDeque;
import java.util.ArrayList;
import java.util.Arrays;
import java.util.HashMap;
import java.util.HashSet;
import java.util.LinkedHashMap;
import java.util.List;
import java.util.Map;
import java.util.Set;
import java.util.TreeSet;
import java.util.regex.Matcher;
import java.util.regex.Pattern;

/**
 * The document once more, written apart from PairStairs, slowly and with the Java library: whole rows of pairs are
 * compared, games are played out, each STONE is dealt out in turn, a FAULT is where a pattern can't be hit any more.
 */
final class Slow {
    private static final int BAD = -1, FULL = -2, FINDING = -3, STATE = -4, SPENT = -6, NONE = -9;
    private static final int NOTHING = 1, BEYOND = 2, UNLIKE = 3, NOUGHT = 4, SIZE = 5;
    private static final String LETTERS = "gtclnb";
    private static final Pattern TEXT =
        Pattern.compile(" *x[0-9]( *o[1-9]){0,4}( *[gtclnb](0[1-9]|[1-9][0-9])){2,6} *");

    private record Person(char letter, int pounds) { }

    private record World(Set<Integer> people, Set<Integer> stones) { }

    private record Deed(World world, int loaves, int sank) { }

    private final Map<Integer, int[]> rows = new HashMap<>();
    private final Map<Integer, byte[]> texts = new HashMap<>();
    private final Map<Integer, List<Deed>> kept = new HashMap<>();
    private final List<Integer> found = new ArrayList<>();
    private List<Person> people = List.of();
    private List<Integer> stones = List.of();
    private List<Deed> deeds = new ArrayList<>(List.of(new Deed(new World(Set.of(), Set.of()), 0, 0)));
    private int limit = 0;
    private int asked = 0;
    private BigInteger upper = BigInteger.ZERO;
    private BigInteger lower = BigInteger.ONE;

    /** A call of the document by its place in the face; unused arguments are left. */
    long call(String name, int a, int b, int c, int d, int e) {
        switch (name) {
            case "row": return row(a, b);
            case "lay": return lay(a, b, c);
            case "at": return at(a, b);
            case "tear": return tear(a);
            case "copy": return copy(a, b, c, d, e);
            case "mean": return mean(a);
            case "text": return text(a, b);
            case "put": return put(a, b, c);
            case "fault": return fault(a);
            case "tower": return tower(a);
            case "one": return one(a, b);
            case "mark": return mark(a, b);
            case "go": return go(a, b, c, d);
            case "loaf": return loaf();
            case "undo": return undo(a);
            case "keep": return keep(a);
            case "on": return on(a);
            case "sink": return sink(a, b, c, d);
            case "best": return best(a, b);
            case "pairs": return pairs();
            case "match": return match();
            case "waits": return waits(a);
            case "worth": return worth();
            case "loaves": return loaves(a, b);
            case "up": return lead(a, true);
            case "down": return lead(a, false);
            case "ever": return ever();
            case "pounds": return pounds(a, b);
            case "kinds": return kinds(a, b);
            case "next": return next(a, b);
            case "send": return send(a);
            case "odds": return odds(a, b, c);
            case "mid": return mid(a, b, c);
            case "lots": return lots(a, b);
            case "asked": return asked;
            case "upper": return upper.longValueExact();
            case "lower": return lower.longValueExact();
            case "count": return count(a);
            case "finding": return found.isEmpty() ? 0 : found.get(found.size() - 1);
            case "findings": return a < 1 || a > 5 ? BAD : found.stream().filter(f -> f == a).count();
            case "digest": return digest();
            default: throw new IllegalArgumentException(name);
        }
    }

    private int refuse(int finding) {
        found.add(finding);
        return FINDING;
    }

    private int tell(int told, int answer) {
        asked = told;
        return answer;
    }

    // ---- rows, texts, towers

    private int row(int r, int n) {
        if (r < 0 || r > 5 || n > 40) return BAD;
        if (n < 0) return refuse(SIZE);
        rows.put(r, new int[n]);
        return n;
    }

    private int lay(int r, int i, int v) {
        if (r < 0 || r > 5) return BAD;
        if (!rows.containsKey(r)) return refuse(NOTHING);
        if (i < 0 || i >= rows.get(r).length) return refuse(BEYOND);
        int was = rows.get(r)[i];
        rows.get(r)[i] = v;
        return tell(was, 1);
    }

    private int at(int r, int i) {
        if (r < 0 || r > 5) return BAD;
        if (!rows.containsKey(r)) return refuse(NOTHING);
        if (i < 0 || i >= rows.get(r).length) return refuse(BEYOND);
        return tell(rows.get(r)[i], 1);
    }

    private int tear(int r) {
        if (r < 0 || r > 5) return BAD;
        return rows.remove(r) == null ? refuse(NOTHING) : 1;
    }

    private int copy(int r, int i, int to, int j, int n) {
        if (r < 0 || r > 5 || to < 0 || to > 5) return BAD;
        if (n < 0) return refuse(SIZE);
        if (!rows.containsKey(r) || !rows.containsKey(to)) return refuse(NOTHING);
        if (i < 0 || j < 0 || (long) i + n > rows.get(r).length || (long) j + n > rows.get(to).length) return refuse(BEYOND);
        int[] ahead = rows.get(r).clone();
        for (int k = 0; k < n; k++) rows.get(to)[j + k] = ahead[i + k];
        return 1;
    }

    private int mean(int r) {
        if (r < 0 || r > 5) return BAD;
        if (!rows.containsKey(r)) return refuse(NOTHING);
        BigInteger sum = BigInteger.ZERO;
        for (int v : rows.get(r)) sum = sum.add(BigInteger.valueOf(v));
        if (rows.get(r).length == 0) return refuse(NOUGHT);
        return tell(sum.divide(BigInteger.valueOf(rows.get(r).length)).intValueExact(), 1);
    }

    private int text(int t, int n) {
        if (t < 0 || t > 3 || n > 60) return BAD;
        if (n < 0) return refuse(SIZE);
        byte[] blanks = new byte[n];
        Arrays.fill(blanks, (byte) ' ');
        texts.put(t, blanks);
        return n;
    }

    private int put(int t, int i, int v) {
        if (t < 0 || t > 3) return BAD;
        if (!texts.containsKey(t)) return refuse(NOTHING);
        if (i < 0 || i >= texts.get(t).length) return refuse(BEYOND);
        int was = texts.get(t)[i];
        texts.get(t)[i] = (byte) v;
        return 1000 + was;
    }

    private String written(int t) {
        StringBuilder all = new StringBuilder();
        for (byte b : texts.get(t)) all.append((char) (b & 255));
        return all.toString();
    }

    private int faultOf(String text) {
        for (int end = 1; end <= text.length(); end++) {
            Matcher matcher = TEXT.matcher(text.substring(0, end));
            if (!matcher.matches() && !matcher.hitEnd()) return end - 1;
        }
        return TEXT.matcher(text).matches() ? NONE : text.length();
    }

    private int fault(int t) {
        if (t < 0 || t > 3) return BAD;
        return texts.containsKey(t) ? faultOf(written(t)) : refuse(NOTHING);
    }

    private int tower(int t) {
        if (t < 0 || t > 3) return BAD;
        if (!texts.containsKey(t)) return refuse(NOTHING);
        String text = written(t);
        if (faultOf(text) != NONE) return STATE;
        people = new ArrayList<>();
        stones = new ArrayList<>();
        Matcher items = Pattern.compile("([a-z])([0-9]+)").matcher(text);
        while (items.find()) {
            int figures = Integer.parseInt(items.group(2));
            if (items.group(1).equals("x")) limit = figures;
            else if (items.group(1).equals("o")) stones.add(figures);
            else people.add(new Person(items.group(1).charAt(0), figures));
        }
        deeds = new ArrayList<>(List.of(new Deed(new World(Set.of(), Set.of()), 0, 0)));
        kept.clear();
        return people.size();
    }

    private Deed now() {
        return deeds.get(deeds.size() - 1);
    }

    private int counts(Person one) {
        int pounds = one.pounds();
        switch (one.letter()) {
            case 'c': return pounds >> 1;
            case 'b': return pounds >> 2;
            case 'l': return pounds + 5;
            case 'n': return pounds + 5 + now().loaves();
            default: return pounds;
        }
    }

    private boolean nobody(int... all) {
        for (int i : all) if (i < 0 || i >= people.size()) return true;
        return false;
    }

    private int one(int i, int what) {
        if (nobody(i) || what < 0 || what > 4) return BAD;
        return tell(told(i, what), 1);
    }

    private int told(int i, int what) {
        Person one = people.get(i);
        if (what == 0) return LETTERS.indexOf(one.letter());
        if (what == 1) return one.pounds();
        if (what == 2) return counts(one);
        if (what == 3) return now().world().people().contains(i) ? 1 : 0;
        int bits = 0;
        for (int j = 0; j < people.size(); j++) {
            if (j != i && can(now().world(), i, j, Set.of())) bits |= 1 << j;
        }
        return bits;
    }

    private int mark(int i, int kind) {
        if (nobody(i) || kind < 1 || kind > 5) return BAD;
        Person one = people.get(i);
        String all = new String[] {"", "t", "cb", "ln", "n", "b"}[kind];
        if (all.indexOf(one.letter()) < 0) return refuse(UNLIKE);
        if (kind == 1) return (int) people.stream().filter(p -> p.letter() == 't').count() - 1;
        if (kind == 2) return one.pounds() - counts(one);
        if (kind == 3) return (int) people.stream().filter(p -> counts(p) > counts(one)).count();
        if (kind == 4) return 9 - now().loaves();
        return counts(new Person('c', one.pounds())) - counts(one);
    }

    // ---- deeds

    private static Set<Integer> set(int bits) {
        Set<Integer> all = new TreeSet<>();
        for (int k = 0; k < 31; k++) if ((bits >> k & 1) == 1) all.add(k);
        return all;
    }

    private static int bits(Set<Integer> all) {
        int bits = 0;
        for (int k : all) bits |= 1 << k;
        return bits;
    }

    private int weight(Set<Integer> some) {
        int sum = 0;
        for (int s : some) sum += stones.get(s);
        return sum;
    }

    private int steps(Person one, Person other, Set<Integer> own, Set<Integer> others) {
        int apart = Math.abs(counts(one) + weight(own) - counts(other) - weight(others));
        return one.letter() == 't' && other.letter() == 't' ? apart / 2 : apart;
    }

    private static boolean together(World world, int i, int j) {
        return world.people().contains(i) == world.people().contains(j);
    }

    private Set<Integer> stonesWith(World world, int i) {
        Set<Integer> there = new TreeSet<>();
        for (int s = 0; s < stones.size(); s++) {
            if (world.stones().contains(s) == world.people().contains(i)) there.add(s);
        }
        return there;
    }

    private boolean noSets(int a, int b) {
        int many = 1 << stones.size();
        return a < 0 || b < 0 || a >= many || b >= many || (a & b) != 0;
    }

    private static World moved(World world, int i, int j, Set<Integer> along) {
        Set<Integer> top = new TreeSet<>(world.people());
        Set<Integer> up = new TreeSet<>(world.stones());
        for (int k : new int[] {i, j}) if (!top.remove(k)) top.add(k);
        for (int s : along) if (!up.remove(s)) up.add(s);
        return new World(top, up);
    }

    private static Set<Integer> union(Set<Integer> a, Set<Integer> b) {
        Set<Integer> all = new TreeSet<>(a);
        all.addAll(b);
        return all;
    }

    private int go(int i, int j, int a, int b) {
        if (nobody(i, j) || i == j || noSets(a, b)) return BAD;
        World world = now().world();
        if (!together(world, i, j) || !stonesWith(world, i).containsAll(union(set(a), set(b)))) return STATE;
        int steps = steps(people.get(i), people.get(j), set(a), set(b));
        if (steps > limit) return SPENT;
        if (deeds.size() > 40) return FULL;
        deeds.add(new Deed(moved(world, i, j, union(set(a), set(b))), now().loaves(), now().sank() + steps));
        return steps;
    }

    private int loaf() {
        if (people.isEmpty() || now().loaves() == 9) return STATE;
        if (deeds.size() > 40) return FULL;
        deeds.add(new Deed(now().world(), now().loaves() + 1, now().sank()));
        return now().loaves();
    }

    private int undo(int n) {
        if (n < 0 || n >= deeds.size()) return BAD;
        int gone = deeds.size() - 1 - n;
        deeds = new ArrayList<>(deeds.subList(0, n + 1));
        return gone;
    }

    private int keep(int k) {
        if (k < 0 || k > 2) return BAD;
        if (people.isEmpty()) return STATE;
        kept.put(k, List.copyOf(deeds));
        return deeds.size() - 1;
    }

    private int on(int k) {
        if (k < 0 || k > 2) return BAD;
        if (!kept.containsKey(k)) return refuse(NOTHING);
        deeds = new ArrayList<>(kept.get(k));
        return deeds.size() - 1;
    }

    // ---- who with whom

    private int sink(int i, int j, int a, int b) {
        if (nobody(i, j) || i == j || noSets(a, b)) return BAD;
        return steps(people.get(i), people.get(j), set(a), set(b));
    }

    /** {the least SINK, the first number of sets by which}. */
    private int[] least(Person one, Person other, Set<Integer> there) {
        int[] least = {Integer.MAX_VALUE, 0};
        int ways = (int) Math.pow(3, there.size());
        for (int way = 0; way < ways; way++) {
            Set<Integer> own = new TreeSet<>();
            Set<Integer> others = new TreeSet<>();
            int rest = way;
            for (int s : there) {
                if (rest % 3 == 1) own.add(s);
                if (rest % 3 == 2) others.add(s);
                rest /= 3;
            }
            int steps = steps(one, other, own, others);
            int number = 16 * bits(own) + bits(others);
            if (steps < least[0] || steps == least[0] && number < least[1]) least = new int[] {steps, number};
        }
        return least;
    }

    private boolean can(World world, int i, int j, Set<Integer> lost) {
        Set<Integer> there = stonesWith(world, i);
        there.removeAll(lost);
        return together(world, i, j) && least(people.get(i), people.get(j), there)[0] <= limit;
    }

    private int best(int i, int j) {
        if (nobody(i, j) || i == j) return BAD;
        if (!together(now().world(), i, j)) return STATE;
        int[] least = least(people.get(i), people.get(j), stonesWith(now().world(), i));
        return tell(least[1], least[0]);
    }

    private List<Integer> pairsWithout(Set<Integer> lost) {
        List<Integer> all = new ArrayList<>();
        for (int i = 0; i < people.size(); i++) {
            for (int j = i + 1; j < people.size(); j++) {
                if (can(now().world(), i, j, lost)) all.add(6 * i + j);
            }
        }
        return all;
    }

    private int pairs() {
        List<Integer> all = pairsWithout(Set.of());
        return tell(all.isEmpty() ? NONE : all.get(0), all.size());
    }

    private int match() {
        if (people.isEmpty()) return STATE;
        Set<Integer> groups = new TreeSet<>();
        pairOff(0, 0, Set.of(), groups);
        int most = 0;
        for (int group : groups) if (Integer.bitCount(group) > Integer.bitCount(most)) most = group;
        return tell(most, Integer.bitCount(most) / 2);
    }

    /** All groups that can go, by trying for each of PEOPLE in turn to be left or to be paired, STONES dealt out. */
    private void pairOff(int i, int group, Set<Integer> taken, Set<Integer> groups) {
        if (i == people.size()) {
            groups.add(group);
            return;
        }
        pairOff(i + 1, group, taken, groups);
        for (int j = i + 1; j < people.size() && (group >> i & 1) == 0; j++) {
            if ((group >> j & 1) == 1 || !together(now().world(), i, j)) continue;
            for (Set<Integer> along : loads(now().world(), i, j)) {
                Set<Integer> both = union(along, taken);
                if (both.size() == along.size() + taken.size()) {
                    pairOff(i + 1, group | 1 << i | 1 << j, both, groups);
                }
            }
        }
    }

    /** The sets of STONES with which two can go. */
    private Set<Set<Integer>> loads(World world, int i, int j) {
        Set<Set<Integer>> loads = new HashSet<>();
        Set<Integer> there = stonesWith(world, i);
        for (int a = 0; a < 16; a++) {
            for (int b = 0; b < 16; b++) {
                if ((a & b) == 0 && there.containsAll(set(a | b))
                    && steps(people.get(i), people.get(j), set(a), set(b)) <= limit) loads.add(set(a | b));
            }
        }
        return loads;
    }

    private int waits(int i) {
        if (nobody(i)) return BAD;
        for (int p = 1; p < 100; p++) {
            if (least(people.get(i), new Person('g', p), stonesWith(now().world(), i))[0] <= limit) return p;
        }
        return NONE;
    }

    private int worth() {
        if (people.isEmpty()) return STATE;
        if (stones.isEmpty()) return NONE;
        int all = pairsWithout(Set.of()).size();
        int first = 0;
        int most = -1;
        for (int s = 0; s < stones.size(); s++) {
            int fewer = all - pairsWithout(Set.of(s)).size();
            if (fewer > most) {
                first = s;
                most = fewer;
            }
        }
        return tell(most, first);
    }

    private int loaves(int i, int j) {
        if (nobody(i, j) || i == j) return BAD;
        if (!together(now().world(), i, j)) return STATE;
        int fewest = NONE;
        List<Deed> before = deeds;
        for (int eaten = 9; eaten >= before.get(before.size() - 1).loaves(); eaten--) {
            Deed last = before.get(before.size() - 1);
            deeds = List.of(new Deed(last.world(), eaten, 0));
            if (steps(people.get(i), people.get(j), Set.of(), Set.of()) <= limit) fewest = eaten - last.loaves();
        }
        deeds = before;
        return fewest;
    }

    // ---- goes to come

    private static boolean isFirst(List<Integer> row, List<Integer> other) {
        for (int k = 0; k < row.size(); k++) {
            if (!row.get(k).equals(other.get(k))) return row.get(k) < other.get(k);
        }
        return false;
    }

    /** For each world that can come to be the first of the shortest rows of pairs by which. */
    private Map<World, List<Integer>> worlds() {
        Map<World, List<Integer>> rowsTo = new LinkedHashMap<>();
        ArrayDeque<World> line = new ArrayDeque<>();
        rowsTo.put(now().world(), List.of());
        line.add(now().world());
        while (!line.isEmpty()) {
            World world = line.remove();
            for (int i = 0; i < people.size(); i++) {
                for (int j = i + 1; j < people.size(); j++) {
                    if (!together(world, i, j)) continue;
                    List<Integer> row = new ArrayList<>(rowsTo.get(world));
                    row.add(6 * i + j);
                    for (Set<Integer> along : loads(world, i, j)) {
                        World then = moved(world, i, j, along);
                        List<Integer> old = rowsTo.get(then);
                        if (old == null) line.add(then);
                        if (old == null || old.size() == row.size() && isFirst(row, old)) rowsTo.put(then, row);
                    }
                }
            }
        }
        return rowsTo;
    }

    private int lead(int set, boolean top) {
        if (set < 0 || set >= 1 << people.size()) return BAD;
        List<Integer> first = null;
        for (Map.Entry<World, List<Integer>> entry : worlds().entrySet()) {
            boolean fits = true;
            for (int i : set(set)) fits &= entry.getKey().people().contains(i) == top;
            List<Integer> row = entry.getValue();
            if (fits && (first == null || row.size() < first.size() || row.size() == first.size() && isFirst(row, first))) first = row;
        }
        return first == null ? NONE : tell(first.isEmpty() ? NONE : first.get(0), first.size());
    }

    private int ever() {
        if (people.isEmpty()) return STATE;
        int bits = 0;
        for (World world : worlds().keySet()) {
            for (int i = 0; i < people.size(); i++) {
                if (world.people().contains(i) != now().world().people().contains(i)) bits |= 1 << i;
            }
        }
        return bits;
    }

    // ---- by how far it sank

    private int refusedWeighing(int i, int r) {
        if (nobody(i) || r < 0 || r > 5) return BAD;
        if (!rows.containsKey(r)) return refuse(NOTHING);
        int[] row = rows.get(r);
        if (row.length > 16 || row.length % 2 == 1) return refuse(SIZE);
        for (int k = 0; k < row.length; k++) {
            boolean fits = k % 2 == 1 ? row[k] >= 0 && row[k] <= 200 : !nobody(row[k]) && row[k] != i;
            if (!fits) return refuse(UNLIKE);
        }
        return 0;
    }

    private boolean sankSo(Person one, int r) {
        int[] row = rows.get(r);
        for (int k = 0; k < row.length; k += 2) {
            if (steps(one, people.get(row[k]), Set.of(), Set.of()) != row[k + 1]) return false;
        }
        return true;
    }

    private int pounds(int i, int r) {
        int refused = refusedWeighing(i, r);
        if (refused != 0) return refused;
        List<Integer> all = new ArrayList<>();
        for (int p = 1; p <= 99; p++) if (sankSo(new Person(people.get(i).letter(), p), r)) all.add(p);
        return tell(all.isEmpty() ? NONE : all.get(0), all.size());
    }

    private List<Person> asKinds(int i, int r) {
        List<Person> all = new ArrayList<>();
        for (char letter : LETTERS.toCharArray()) {
            Person one = new Person(letter, people.get(i).pounds());
            if (sankSo(one, r)) all.add(one);
        }
        return all;
    }

    private int kinds(int i, int r) {
        int refused = refusedWeighing(i, r);
        if (refused != 0) return refused;
        int bits = 0;
        for (Person one : asKinds(i, r)) bits |= 1 << LETTERS.indexOf(one.letter());
        return bits;
    }

    private int next(int i, int r) {
        int refused = refusedWeighing(i, r);
        if (refused != 0) return refused;
        if (asKinds(i, r).isEmpty()) return NONE;
        int with = NONE;
        int least = 7;
        for (int j = 0; j < people.size(); j++) {
            if (j == i) continue;
            Map<Integer, Integer> parts = new HashMap<>();
            for (Person one : asKinds(i, r)) parts.merge(steps(one, people.get(j), Set.of(), Set.of()), 1, Integer::sum);
            int greatest = parts.values().stream().max(Integer::compare).get();
            if (greatest < least) {
                with = j;
                least = greatest;
            }
        }
        return tell(least, with);
    }

    // ---- by turns, chances, lots

    private int send(int n) {
        if (n < 0 || n > 2) return BAD;
        if (people.isEmpty()) return STATE;
        return play(bits(now().world().people()), 0, 2 * n);
    }

    private int play(int top, int turn, int turns) {
        if (turn == turns) return Integer.bitCount(top);
        List<Integer> ends = new ArrayList<>(List.of(play(top, turn + 1, turns)));
        for (int i = 0; i < people.size(); i++) {
            for (int j = i + 1; j < people.size(); j++) {
                if ((top >> i & 1) == (top >> j & 1) && steps(people.get(i), people.get(j), Set.of(), Set.of()) <= limit) {
                    ends.add(play(top ^ 1 << i ^ 1 << j, turn + 1, turns));
                }
            }
        }
        return ends.stream().reduce(turn % 2 == 0 ? Math::max : Math::min).get();
    }

    /** Chances (or means) over all that may be left, in parts of 12 to the number of STONES. */
    private long dealt(List<Integer> toCome, Set<Integer> left, int p, int i, int j, boolean mean) {
        if (toCome.isEmpty()) {
            int steps = least(people.get(i), people.get(j), left)[0];
            return mean ? steps : steps <= limit ? 1 : 0;
        }
        List<Integer> rest = toCome.subList(1, toCome.size());
        return p * dealt(rest, left, p, i, j, mean) + (12 - p) * dealt(rest, union(left, Set.of(toCome.get(0))), p, i, j, mean);
    }

    private int share(int i, int j, int p, boolean mean) {
        if (nobody(i, j) || i == j || p < 0 || p > 12) return BAD;
        if (!together(now().world(), i, j)) return STATE;
        List<Integer> there = new ArrayList<>(stonesWith(now().world(), i));
        BigInteger over = BigInteger.valueOf(dealt(there, Set.of(), p, i, j, mean));
        BigInteger under = BigInteger.valueOf(12).pow(there.size());
        upper = over.divide(over.gcd(under));
        lower = under.divide(over.gcd(under));
        return 1;
    }

    private int odds(int i, int j, int p) {
        return share(i, j, p, false);
    }

    private int mid(int i, int j, int p) {
        return share(i, j, p, true);
    }

    private int lots(int n, int seed) {
        if (n < 1 || n > 20 || seed < 1 || seed > 2147483646) return BAD;
        if (people.isEmpty()) return STATE;
        if (deeds.size() - 1 + n > 40) return FULL;
        BigInteger number = BigInteger.valueOf(seed);
        for (int k = 0; k < n; k++) {
            number = number.multiply(BigInteger.valueOf(48271)).mod(BigInteger.valueOf(2147483647));
            long it = number.longValueExact();
            Deed nothing = new Deed(now().world(), now().loaves(), now().sank());
            int before = deeds.size();
            if ((it / 8) % 4 == 0) {
                if (now().loaves() < 9) loaf();
            } else {
                int i = (int) (it % people.size());
                int j = (int) ((it / 64) % people.size());
                if (i != j && together(now().world(), i, j)) {
                    int number2 = least(people.get(i), people.get(j), stonesWith(now().world(), i))[1];
                    go(i, j, number2 / 16, number2 % 16);
                }
            }
            if (deeds.size() == before) deeds.add(nothing);
        }
        return now().world().people().size();
    }

    // ---- what is told

    private int count(int what) {
        switch (what) {
            case 0: return people.size();
            case 1: return stones.size();
            case 2: return deeds.size() - 1;
            case 3: return now().loaves();
            case 4: return bits(now().world().people());
            case 5: return bits(now().world().stones());
            case 6: return limit;
            case 7: return now().sank();
            case 8: return (int) people.stream().filter(p -> "cb".indexOf(p.letter()) >= 0).count();
            case 9: return (int) people.stream().filter(p -> "ln".indexOf(p.letter()) >= 0).count();
            case 10: return rows.size();
            case 11: return texts.size();
            case 12: return kept.size();
            default: return BAD;
        }
    }

    private long digest() {
        List<Integer> all = new ArrayList<>();
        for (int what = 0; what <= 12; what++) all.add(count(what));
        all.addAll(stones);
        for (int i = 0; i < people.size(); i++) for (int what = 0; what < 5; what++) all.add(told(i, what));
        for (int k = 0; k < 3; k++) all.add(kept.containsKey(k) ? kept.get(k).size() - 1 : -1);
        for (int r = 0; r < 6; r++) {
            all.add(rows.containsKey(r) ? rows.get(r).length : -1);
            if (rows.containsKey(r)) for (int v : rows.get(r)) all.add(v);
        }
        for (int t = 0; t < 4; t++) {
            all.add(texts.containsKey(t) ? texts.get(t).length : -1);
            if (texts.containsKey(t)) for (byte v : texts.get(t)) all.add((int) v);
        }
        long h = 17;
        for (int v : all) h = 31 * h + v;
        return h;
    }
}
