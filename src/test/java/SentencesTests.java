import java.io.File;
import java.lang.reflect.Method;
import java.util.regex.Matcher;
import java.util.regex.Pattern;

/** Each word of the document that tells an edge (a refusal, a FINDING, NONE, a number) is one that a test says. */
final class SentencesTests {
    private static final Class<?>[] EDGES = {RowEdgesTests.class, TowerEdgesTests.class, DeedEdgesTests.class,
        PairEdgesTests.class, WeighEdgesTests.class, LotEdgesTests.class, ToldEdgesTests.class};
    private static final Pattern EDGE =
        Pattern.compile("\\b(BAD|FULL|STATE|SPENT|FINDING|NONE|NOTHING|BEYOND|UNLIKE|NOUGHT|SIZE|[0-9]+)\\b");
    private static final Pattern HEADING = Pattern.compile("(======== [0-9]|---- [0-9])");
    private static final Check CHECK = new Check("sentences");
    private static final int PROMISES = 42;

    public static void main(String[] args) {
        allTestsOfEdgesAreHere();
        for (int promise = 0; promise <= PROMISES; promise++) {
            everyEdgeIsSaid(promise);
        }
        CHECK.end();
    }

    private static void allTestsOfEdgesAreHere() {
        String[] files = new File(System.getProperty("pairstairs.root", "."), "src/test/java").list();
        int many = 0;
        for (String file : files == null ? new String[0] : files) {
            many += file.endsWith("EdgesTests.java") ? 1 : 0;
        }
        CHECK.due("classes of tests of edges", EDGES.length, many);
    }

    private static void everyEdgeIsSaid(int promise) {
        String text = Edges.document(promise);
        boolean[] said = said(promise, text);
        Matcher edge = EDGE.matcher(text);
        while (edge.find()) {
            String around = text.substring(Math.max(0, edge.start() - 30), Math.min(text.length(), edge.end() + 30));
            CHECK.holds("a test for " + edge.group() + " of promise " + promise + " in '" + around + "'", said[edge.start()]);
        }
    }

    /** Which places of a text stand in what the tests say: each of their words just once, the first time it comes. */
    private static boolean[] said(int promise, String text) {
        boolean[] said = new boolean[text.length()];
        for (Class<?> edges : EDGES) {
            for (Method test : Edges.testsOf(edges)) {
                Says says = test.getAnnotation(Says.class);
                for (String words : says.in() == promise ? says.words() : new String[0]) {
                    int start = text.indexOf(words);
                    for (int k = 0; start >= 0 && k < words.length(); k++) {
                        said[start + k] = true;
                    }
                }
            }
        }
        Matcher heading = HEADING.matcher(text);
        while (heading.find()) {
            said[heading.end() - 1] = true;
        }
        return said;
    }

    private SentencesTests() {
    }
}
