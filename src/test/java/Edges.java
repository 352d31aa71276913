import java.io.IOException;
import java.lang.reflect.InvocationTargetException;
import java.lang.reflect.Method;
import java.nio.file.Files;
import java.nio.file.Path;
import java.util.ArrayList;
import java.util.Arrays;
import java.util.Comparator;
import java.util.List;

/** What the tests of edges share: each test is a static method that says its words and is given a new object. */
abstract class Edges {
    static final int BAD = -1, FULL = -2, FINDING = -3, STATE = -4, SPENT = -6, NONE = -9;
    static final int NOTHING = 1, BEYOND = 2, UNLIKE = 3, NOUGHT = 4, SIZE = 5;
    static final int MIN = Integer.MIN_VALUE, MAX = Integer.MAX_VALUE;

    /** The last number below 0 .. many - 1, the first one above, and the ends of all ints. */
    static int[] outside(int many) {
        return new int[] {-1, many, MIN, MAX};
    }

    /** The document's words of a promise, or (0) all that stands ahead of the promises. */
    static String document(int promise) {
        try {
            String root = System.getProperty("pairstairs.root", ".");
            String all = Files.readString(Path.of(root).resolve("../shared/DOC.md"));
            String[] parts = all.split("## Promise [0-9]+: |## Not promised");
            return parts[promise];
        } catch (IOException e) {
            throw new IllegalStateException("../shared/DOC.md must be there", e);
        }
    }

    static List<Method> testsOf(Class<?> tests) {
        List<Method> all = new ArrayList<>();
        for (Method method : tests.getDeclaredMethods()) {
            if (method.isAnnotationPresent(Says.class)) {
                all.add(method);
            }
        }
        all.sort(Comparator.comparing((Method m) -> m.getAnnotation(Says.class).in()).thenComparing(Method::getName));
        return all;
    }

    /** Runs each test of a class, and ends the program: with 1 if one of them failed. */
    static void run(Class<?> tests) {
        int wrong = 0;
        for (Method test : testsOf(tests)) {
            Check check = new Check(tests.getSimpleName() + "." + test.getName());
            Says says = test.getAnnotation(Says.class);
            for (String words : says.words()) {
                check.holds("that the document says '" + words + "'", document(says.in()).contains(words));
            }
            runOne(test, check);
            wrong += check.wrong() == 0 ? 0 : 1;
        }
        System.out.println(testsOf(tests).size() + " tests of " + tests.getSimpleName() + ", " + wrong + " failed");
        System.exit(wrong == 0 && !testsOf(tests).isEmpty() ? 0 : 1);
    }

    private static void runOne(Method test, Check check) {
        try {
            test.setAccessible(true);
            test.invoke(null, new Probe(check));
        } catch (IllegalAccessException | InvocationTargetException e) {
            check.holds("the test's end, for " + Arrays.asList(e, e.getCause()), false);
        }
    }
}
