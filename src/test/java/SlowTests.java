import java.lang.reflect.InvocationTargetException;
import java.lang.reflect.Method;
import java.lang.reflect.Modifier;
import java.util.ArrayList;
import java.util.Arrays;
import java.util.HashMap;
import java.util.List;
import java.util.Map;
import java.util.Random;
import java.util.TreeMap;

/** Runs of calls by lots: PairStairs answers what Slow does, and never throws. */
final class SlowTests {
    private static final int[] WILD = {-1, -2, 6, 7, 12, 13, 40, 41, 60, 61, 64, 99, 200, 201, 255, 300,
        Integer.MIN_VALUE, Integer.MAX_VALUE, Integer.MIN_VALUE + 1, Integer.MAX_VALUE - 1, 1 << 16, -128};
    /** The calls that the runs are about, some of them more often, and what their arguments are. */
    private static final String[] CALLS = {
        "row r n", "lay r i v", "at r i", "tear r", "copy r i r i i", "mean r", "text t m", "put t m b",
        "fault t", "tower t", "one p w", "mark p k", "mark p k", "go p p s s", "go p p s s", "go p p z z", "go p p z z",
        "loaf", "loaf", "undo d", "keep c", "on c", "sink p p s s", "best p p", "best p p", "pairs", "match", "match",
        "waits p", "worth", "worth", "loaves p p", "loaves p p", "up g", "down g", "ever", "pounds p r", "kinds p r",
        "next p r", "next p r", "send y", "odds p p q", "mid p p q", "lots l e", "asked", "upper", "lower",
        "count o", "finding", "findings f", "digest"};
    /** What later calls answer is free. */
    private static final int MOST_CALLS = 512;
    private static final Map<String, Method> FACE = new HashMap<>();
    private static final Map<String, Map<Long, Integer>> ANSWERED = new TreeMap<>();
    private static final Check CHECK = new Check("slow");

    public static void main(String[] args) {
        int runs = args.length > 0 ? Integer.parseInt(args[0]) : 2000;
        long seed = args.length > 1 ? Long.parseLong(args[1]) : 20261119L;
        for (Method method : PairStairs.class.getDeclaredMethods()) {
            if (Modifier.isPublic(method.getModifiers())) {
                FACE.put(method.getName(), method);
            }
        }
        for (int run = 0; run < runs && CHECK.wrong() == 0; run++) {
            runOne(new Random(seed + run));
        }
        everyKindOfAnswerWasSeen(runs);
        CHECK.end();
    }

    private static void runOne(Random random) {
        PairStairs fast = new PairStairs();
        Slow slow = new Slow();
        List<String> told = new ArrayList<>();
        boolean wild = random.nextInt(3) == 0;
        for (int k = 0; told.size() < MOST_CALLS && CHECK.wrong() == 0; k++) {
            if (random.nextInt(k == 0 ? 2 : 25) == 0) {
                write(fast, slow, random, told);
            } else if (random.nextInt(12) == 0) {
                weigh(fast, slow, random, told);
            } else if (random.nextInt(40) == 0) {
                fill(fast, slow, random, told);
            } else if (random.nextInt(40) == 0) {
                goOn(fast, slow, random, told);
            }
            String[] call = CALLS[random.nextInt(CALLS.length)].split(" ");
            int[] arguments = new int[5];
            for (int a = 1; a < call.length; a++) {
                arguments[a - 1] = argument(call[a].charAt(0), random, wild);
            }
            both(fast, slow, told, call[0], arguments);
            both(fast, slow, told, "asked");
            both(fast, slow, told, "upper");
            both(fast, slow, told, "lower");
            both(fast, slow, told, "finding");
            both(fast, slow, told, "findings", 1 + random.nextInt(5));
            both(fast, slow, told, "digest");
        }
        if (CHECK.wrong() > 0) {
            told.forEach(System.out::println);
        }
    }

    private static void both(PairStairs fast, Slow slow, List<String> told, String name, int... given) {
        if (told.size() >= MOST_CALLS) {
            return;
        }
        int[] all = Arrays.copyOf(given, 5);
        Method method = FACE.get(name);
        Object[] arguments = new Object[method.getParameterCount()];
        for (int a = 0; a < arguments.length; a++) {
            arguments[a] = all[a];
        }
        String call = name + Arrays.toString(arguments);
        long want = slow.call(name, all[0], all[1], all[2], all[3], all[4]);
        told.add(call + " " + want);
        ANSWERED.computeIfAbsent(name, n -> new HashMap<>()).merge(want < 0 ? want : 1, 1, Integer::sum);
        try {
            CHECK.due(call, ((Number) method.invoke(fast, arguments)).longValue(), want);
        } catch (IllegalAccessException e) {
            CHECK.holds(call + " can be called", false);
        } catch (InvocationTargetException e) {
            CHECK.holds(call + " does not throw " + e.getCause(), false);
        }
    }

    /** Tells who was weighed with whom, mostly so that it can be true. */
    private static void weigh(PairStairs fast, Slow slow, Random random, List<String> told) {
        int r = random.nextInt(6);
        int i = random.nextInt(6);
        int many = random.nextInt(4);
        both(fast, slow, told, "row", r, 2 * many);
        for (int k = 0; k < many; k++) {
            int j = random.nextInt(6);
            int steps = (int) slow.call("sink", i, j, 0, 0, 0);
            both(fast, slow, told, "lay", r, 2 * k, j);
            both(fast, slow, told, "lay", r, 2 * k + 1, Math.max(0, steps + (random.nextInt(5) == 0 ? 1 : 0)));
        }
        both(fast, slow, told, "pounds", i, r);
        both(fast, slow, told, "kinds", i, r);
        both(fast, slow, told, "next", i, r);
    }

    /** Does DEEDS until there are 40, so that what comes next is refused, and some of it for another reason. */
    private static void fill(PairStairs fast, Slow slow, Random random, List<String> told) {
        for (int k = 0; k < 40 && slow.call("count", 2, 0, 0, 0, 0) < 40; k++) {
            int left = 40 - (int) slow.call("count", 2, 0, 0, 0, 0);
            both(fast, slow, told, "lots", Math.min(left, 1 + random.nextInt(20)), 1 + random.nextInt(2147483646));
        }
        both(fast, slow, told, "loaf");
        for (int pair = 0; pair < 36; pair++) {
            both(fast, slow, told, "go", pair / 6, pair % 6, 0, 0);
        }
    }

    /** Keeps a TOWER, does other DEEDS, goes on from the kept one, and then undoes its DEEDS one by one. */
    private static void goOn(PairStairs fast, Slow slow, Random random, List<String> told) {
        int k = random.nextInt(3);
        both(fast, slow, told, "keep", k);
        both(fast, slow, told, "undo", random.nextInt(1 + (int) slow.call("count", 2, 0, 0, 0, 0)));
        both(fast, slow, told, "lots", 1 + random.nextInt(20), 1 + random.nextInt(2147483646));
        both(fast, slow, told, "on", k);
        for (int n = (int) slow.call("count", 2, 0, 0, 0, 0); n >= 0 && random.nextInt(8) > 0; n--) {
            both(fast, slow, told, "undo", n);
            both(fast, slow, told, "digest");
        }
    }

    private static void write(PairStairs fast, Slow slow, Random random, List<String> told) {
        String text = written(random);
        int t = random.nextInt(4);
        both(fast, slow, told, "text", t, text.length());
        for (int i = 0; i < text.length(); i++) {
            both(fast, slow, told, "put", t, i, text.charAt(i));
        }
        both(fast, slow, told, "fault", t);
        both(fast, slow, told, "tower", t);
    }

    private static String written(Random random) {
        StringBuilder text = new StringBuilder();
        text.append(blanks(random)).append('x').append(random.nextInt(random.nextBoolean() ? 3 : 10));
        int stones = random.nextInt(5);
        for (int s = 0; s < stones; s++) {
            text.append(blanks(random)).append('o').append(1 + random.nextInt(9));
        }
        int people = 2 + random.nextInt(5);
        int base = random.nextInt(85);
        int spread = random.nextInt(3) == 0 ? 99 : 14;
        for (int i = 0; i < people; i++) {
            int pounds = spread == 99 ? 1 + random.nextInt(99) : base + 1 + random.nextInt(spread);
            text.append(blanks(random)).append("gtclnb".charAt(random.nextInt(6)));
            text.append((char) ('0' + pounds / 10)).append((char) ('0' + pounds % 10));
        }
        text.append(blanks(random));
        if (random.nextInt(4) == 0) {
            spoil(text, random);
        }
        return text.length() > 60 ? text.substring(0, 60) : text.toString();
    }

    private static void spoil(StringBuilder text, Random random) {
        int i = random.nextInt(text.length());
        String signs = "xo09 gtclnb51:/\u00ffG";
        char sign = signs.charAt(random.nextInt(signs.length()));
        int how = random.nextInt(4);
        if (how == 0) {
            text.setLength(i);
        } else if (how == 1) {
            text.setCharAt(i, sign);
        } else if (how == 2) {
            text.insert(i, sign);
        } else {
            text.deleteCharAt(i);
        }
    }

    private static String blanks(Random random) {
        return " ".repeat(random.nextInt(3) == 0 ? random.nextInt(3) : 0);
    }

    private static int argument(char kind, Random random, boolean wild) {
        if (wild && random.nextInt(6) == 0) {
            return WILD[random.nextInt(WILD.length)];
        }
        switch (kind) {
            case 'r': return random.nextInt(random.nextInt(8) == 0 ? 7 : 6);
            case 'n': return random.nextInt(42);
            case 'i': return random.nextInt(10) - random.nextInt(2);
            case 'v': return random.nextInt(3) == 0 ? random.nextInt() : random.nextInt(30);
            case 't': return random.nextInt(4);
            case 'm': return random.nextInt(62);
            case 'b': return random.nextInt(600) - 200;
            case 'p': return random.nextInt(6);
            case 'w': return random.nextInt(6);
            case 'k': return random.nextInt(7);
            case 's': return random.nextInt(16);
            case 'z': return random.nextInt(3) == 0 ? 1 << random.nextInt(4) : 0;
            case 'd': return random.nextInt(random.nextInt(4) == 0 ? 12 : 40);
            case 'c': return random.nextInt(3);
            case 'g': return random.nextInt(random.nextBoolean() ? 8 : 64);
            case 'y': return random.nextInt(4);
            case 'q': return random.nextInt(14);
            case 'l': return 1 + random.nextInt(random.nextInt(3) == 0 ? 20 : 6);
            case 'e': return 1 + random.nextInt(2147483646);
            case 'o': return random.nextInt(14);
            default: return random.nextInt(7);
        }
    }

    /** So that these runs go on telling something: each refusal of the document comes up in them. */
    private static void everyKindOfAnswerWasSeen(int runs) {
        if (runs < 1000 || CHECK.wrong() > 0) {
            return;
        }
        String[] due = {"row -1 -3 1", "lay -1 -3 1", "at -1 -3 1", "tear -1 -3 1", "copy -1 -3 1", "mean -1 -3 1",
            "text -1 -3 1", "put -1 -3 1", "fault -1 -3 -9 1", "tower -1 -3 -4 1", "one -1 1", "mark -1 -3 1",
            "go -1 -2 -4 -6 1", "loaf -2 -4 1", "undo -1 1", "keep -1 -4 1", "on -1 -3 1", "sink -1 1", "best -1 -4 1",
            "pairs 1", "match -4 1", "waits -1 -9 1", "worth -4 -9 1", "loaves -1 -4 -9 1", "up -1 -9 1",
            "down -1 -9 1", "ever -4 1", "pounds -1 -3 1", "kinds -1 -3 1", "next -1 -3 -9 1", "send -1 -4 1",
            "odds -1 -4 1", "mid -1 -4 1", "lots -1 -2 -4 1", "count -1 1", "findings -1 1"};
        for (String line : due) {
            String[] parts = line.split(" ");
            for (int k = 1; k < parts.length; k++) {
                Map<Long, Integer> seen = ANSWERED.getOrDefault(parts[0], Map.of());
                CHECK.holds(parts[0] + " answered " + parts[k] + " at times", seen.containsKey(Long.parseLong(parts[k])));
            }
        }
    }

    private SlowTests() {
    }
}
