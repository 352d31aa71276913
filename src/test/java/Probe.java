import java.lang.reflect.InvocationTargetException;
import java.lang.reflect.Method;
import java.lang.reflect.Modifier;
import java.util.Arrays;
import java.util.HashMap;
import java.util.Map;

/** A PairStairs that is called by name, at most 512 times, and looked at before and behind what must leave it alone. */
final class Probe {
    private static final int FINDING = -3, NONE = -9, FINDINGS = 5, MOST_CALLS = 512;
    private static final Map<String, Method> FACE = new HashMap<>();

    static {
        for (Method method : PairStairs.class.getDeclaredMethods()) {
            if (Modifier.isPublic(method.getModifiers())) {
                FACE.put(method.getName(), method);
            }
        }
    }

    /** All that is told of an object without changing it. */
    private record Sight(long digest, long asked, long upper, long lower, long finding, long[] findings) { }

    private final PairStairs stairs = new PairStairs();
    private final Check check;
    private int calls = 0;
    private Sight latest = null;

    Probe(Check check) {
        this.check = check;
    }

    /** A new object for the same test. */
    Probe another() {
        return new Probe(check);
    }

    long ask(String name, int... arguments) {
        latest = null;
        return answer(name, arguments);
    }

    private long answer(String name, int... arguments) {
        calls++;
        if (calls > MOST_CALLS) {
            check.holds("at most 512 calls are promised", false);
        }
        try {
            Object[] boxed = Arrays.stream(arguments).boxed().toArray();
            return ((Number) FACE.get(name).invoke(stairs, boxed)).longValue();
        } catch (IllegalAccessException | InvocationTargetException e) {
            check.holds(told(name, arguments) + " answers without " + e.getCause(), false);
            return 0;
        }
    }

    /** A call that is written in one line, its name and its numbers with blanks between. */
    long asWritten(String line) {
        String[] parts = line.split(" ");
        return ask(parts[0], Arrays.stream(parts).skip(1).mapToInt(Integer::parseInt).toArray());
    }

    private static String told(String name, int... arguments) {
        return name + Arrays.toString(arguments).replace('[', '(').replace(']', ')');
    }

    void due(long want, String name, int... arguments) {
        check.due(told(name, arguments), ask(name, arguments), want);
    }

    void holds(String what, boolean held) {
        check.holds(what, held);
    }

    /** A call that answers and tells by asked(). */
    void told(long want, long asked, String name, int... arguments) {
        due(want, name, arguments);
        check.due("asked() behind " + told(name, arguments), ask("asked"), asked);
    }

    /** A call that tells by upper(), lower(). */
    void shares(long upper, long lower, String name, int... arguments) {
        due(1, name, arguments);
        check.due("upper() behind " + told(name, arguments), ask("upper"), upper);
        check.due("lower() behind " + told(name, arguments), ask("lower"), lower);
    }

    /** A call that answers a number below 0, but no FINDING, and leaves all as it was. */
    void refused(int want, String name, int... arguments) {
        leaves(want, 0, name, arguments);
    }

    /** A call that is refused with a FINDING, and leaves all but the FINDINGS as it was. */
    void found(int finding, String name, int... arguments) {
        leaves(FINDING, finding, name, arguments);
    }

    /** A call that is not refused, but leaves all as it was, and tells nothing by asked(). */
    void leaves(long want, String name, int... arguments) {
        leaves(want, 0, name, arguments);
    }

    /** A call that answers NONE: it isn't refused, but tells nothing. */
    void none(String name, int... arguments) {
        leaves(NONE, 0, name, arguments);
    }

    private void leaves(long want, int finding, String name, int... arguments) {
        String call = told(name, arguments);
        Sight before = latest != null ? latest : look();
        check.due(call, answer(name, arguments), want);
        Sight after = look();
        check.due("digest() behind " + call, after.digest, before.digest);
        check.due("asked() behind " + call, after.asked, before.asked);
        check.due("upper() behind " + call, after.upper, before.upper);
        check.due("lower() behind " + call, after.lower, before.lower);
        check.due("finding() behind " + call, after.finding, finding == 0 ? before.finding : finding);
        for (int f = 1; f <= FINDINGS; f++) {
            long more = f == finding ? 1 : 0;
            check.due("findings(" + f + ") behind " + call, after.findings[f], before.findings[f] + more);
        }
    }

    /** Aside: a call that changes nothing but what it tells by asked(). */
    void aside(long want, long asked, String name, int... arguments) {
        long before = ask("digest");
        told(want, asked, name, arguments);
        check.due("digest() behind " + told(name, arguments), ask("digest"), before);
    }

    private Sight look() {
        long[] findings = new long[FINDINGS + 1];
        for (int f = 1; f <= FINDINGS; f++) {
            findings[f] = answer("findings", f);
        }
        latest = new Sight(answer("digest"), answer("asked"), answer("upper"), answer("lower"), answer("finding"), findings);
        return latest;
    }

    void counts(int what, long want) {
        due(want, "count", what);
    }

    /** A TEXT anew, byte by byte. */
    void write(int t, String text) {
        due(text.length(), "text", t, text.length());
        for (int i = 0; i < text.length(); i++) {
            if (text.charAt(i) != ' ') {
                due(1032, "put", t, i, text.charAt(i));
            }
        }
    }

    /** Writes a TEXT that must be fine, and makes it a TOWER. */
    void build(String text) {
        write(0, text);
        due(NONE, "fault", 0);
        check.holds(text + " is a TOWER", ask("tower", 0) >= 2);
    }

    /** A ROW anew with these ints. */
    void fill(int r, int... places) {
        due(places.length, "row", r, places.length);
        for (int i = 0; i < places.length; i++) {
            due(1, "lay", r, i, places[i]);
        }
    }

    /** A ROW has just these ints. */
    void hasRow(int r, int... places) {
        for (int i = 0; i < places.length; i++) {
            told(1, places[i], "at", r, i);
        }
        due(FINDING, "at", r, places.length);
    }

    void loaves(int many) {
        for (int k = 0; k < many; k++) {
            due(k + 1, "loaf");
        }
    }

    /** As many GOES of two of like weight, up and down. */
    void goes(int many, int i, int j) {
        for (int k = 0; k < many; k++) {
            due(0, "go", i, j, 0, 0);
        }
    }
}
