import java.io.File;
import java.lang.reflect.Method;
import java.util.Arrays;
import java.util.regex.Matcher;
import java.util.regex.Pattern;

/** Each word of the document, from its Terms on, stands in words that a test says; headings and signatures do not count. */
final class SentencesTests {
    private static final Class<?>[] EDGES = {RowEdgesTests.class, TowerEdgesTests.class, DeedEdgesTests.class,
        PairEdgesTests.class, WeighEdgesTests.class, LotEdgesTests.class, ToldEdgesTests.class,
        StillEdgesTests.class};
    private static final Pattern WORD = Pattern.compile("[A-Za-z0-9_]+");
    private static final Pattern HEADING = Pattern.compile("(?m)^(## Terms$|```text$|```$|======== ANSWERS|"
        + "======== [0-9]( LOTS:)?|Ahead of the calls .* the interface says: ---- [0-9][^(.]*)");
    private static final Pattern SIGNATURE = Pattern.compile("(?s)^.*?`: ");
    private static final Check CHECK = new Check("sentences");
    private static final int PROMISES = 42;

    public static void main(String[] args) {
        allTestsOfEdgesAreHere();
        for (int promise = 0; promise <= PROMISES; promise++) {
            everyWordIsSaid(promise);
        }
        CHECK.end();
    }

    private static void allTestsOfEdgesAreHere() {
        String[] files = new File(System.getProperty("pairstairs.root", "."), "src/test/java").list();
        int many = 0;
        for (String file : files == null ? new String[0] : files) {
            many += file.endsWith("EdgesTests.java") ? 1 : 0;
        }
        CHECK.due("classes of tests of edges", EDGES.length, many);
    }

    private static void everyWordIsSaid(int promise) {
        String text = Edges.document(promise);
        boolean[] said = said(promise, text);
        Matcher word = WORD.matcher(text);
        while (word.find()) {
            String around = text.substring(Math.max(0, word.start() - 30), Math.min(text.length(), word.end() + 30));
            CHECK.holds("a test for '" + word.group() + "' of promise " + promise + " in '" + around + "'", said[word.start()]);
        }
    }

    /** Which places of a text stand in what the tests say: each of their words just once, the first time it comes. */
    private static boolean[] said(int promise, String text) {
        boolean[] said = new boolean[text.length()];
        for (Class<?> edges : EDGES) {
            for (Method test : Edges.testsOf(edges)) {
                Says says = test.getAnnotation(Says.class);
                for (String words : says.in() == promise ? says.words() : new String[0]) {
                    int start = text.indexOf(words);
                    for (int k = 0; start >= 0 && k < words.length(); k++) {
                        said[start + k] = true;
                    }
                }
            }
        }
        Arrays.fill(said, 0, Math.max(0, text.indexOf("## Terms")), true);
        Matcher heading = (promise == 0 ? HEADING : SIGNATURE).matcher(text);
        while (heading.find()) {
            Arrays.fill(said, heading.start(), heading.end(), true);
        }
        return said;
    }

    private SentencesTests() {
    }
}
