import java.io.IOException;
import java.lang.reflect.Constructor;
import java.lang.reflect.Field;
import java.lang.reflect.Method;
import java.lang.reflect.Modifier;
import java.nio.file.Files;
import java.nio.file.Path;
import java.util.ArrayList;
import java.util.List;
import java.util.Set;
import java.util.TreeSet;
import java.util.regex.Matcher;
import java.util.regex.Pattern;

/** The public face is the document's, and the source keeps to what a glance can tell of LANGUAGE.md. */
final class FaceTests {
    private static final int LONGEST_METHOD = 60;
    private static final String[] FORBIDDEN = {
        "throw", "try", "catch", "synchronized", "assert", "->", "::", "instanceof", "record", "volatile",
        "String\\.format", "System\\.out", "System\\.err", "Random", "Thread", "currentTimeMillis", "nanoTime",
        "hashCode", "equals", "toString", "Exact", "java\\.io", "java\\.nio"};
    private static final Check CHECK = new Check("face");

    public static void main(String[] args) throws IOException {
        Path root = Path.of(System.getProperty("pairstairs.root", "."));
        String document = Files.readString(root.resolve("../shared/DOC.md"));
        String source = Files.readString(root.resolve("src/main/java/PairStairs.java"));
        theFaceIsTheDocuments(document);
        nestedClassesAreStaticAndHidden();
        nothingForbiddenStandsInTheSource(withoutComments(source));
        methodsAreShort(source);
        noPrivateMethodBearsAPublicName();
        CHECK.end();
    }

    private static void theFaceIsTheDocuments(String document) {
        String face = document.substring(document.indexOf("```java"), document.indexOf("## Terms"));
        Set<String> due = new TreeSet<>();
        Matcher call = Pattern.compile("public (int|long) (\\w+)\\(([^)]*)\\);").matcher(face);
        while (call.find()) {
            int parameters = call.group(3).isBlank() ? 0 : call.group(3).split(",").length;
            due.add(call.group(1) + " " + call.group(2) + " int".repeat(parameters));
        }
        Set<String> there = new TreeSet<>();
        for (Method method : PairStairs.class.getDeclaredMethods()) {
            if (!Modifier.isPrivate(method.getModifiers()) && !method.isSynthetic()) {
                StringBuilder told = new StringBuilder(method.getReturnType() + " " + method.getName());
                for (Class<?> parameter : method.getParameterTypes()) {
                    told.append(" ").append(parameter);
                }
                there.add(told.toString());
                CHECK.holds(method + " is public", Modifier.isPublic(method.getModifiers()));
            }
        }
        CHECK.holds("the document's calls " + due + " are the class's " + there, due.equals(there));
        CHECK.due("calls of the document", due.size(), 41);
        CHECK.holds("the class is public and final", PairStairs.class.getModifiers() == (Modifier.PUBLIC | Modifier.FINAL));
        Constructor<?>[] constructors = PairStairs.class.getDeclaredConstructors();
        CHECK.due("constructors", constructors.length, 1);
        CHECK.due("its parameters", constructors[0].getParameterCount(), 0);
        theConstantsAreTheDocuments();
    }

    private static void theConstantsAreTheDocuments() {
        Set<String> there = new TreeSet<>();
        for (Field field : PairStairs.class.getDeclaredFields()) {
            if (!Modifier.isPrivate(field.getModifiers())) {
                there.add(field.getName());
                CHECK.holds(field + " is a constant", Modifier.isStatic(field.getModifiers())
                    && Modifier.isFinal(field.getModifiers()) && field.getType() == int.class);
            }
        }
        CHECK.holds("constants " + there, there.equals(Set.of("BAD", "FULL", "FINDING", "STATE", "SPENT", "NONE")));
        CHECK.due("BAD", PairStairs.BAD, -1);
        CHECK.due("FULL", PairStairs.FULL, -2);
        CHECK.due("FINDING", PairStairs.FINDING, -3);
        CHECK.due("STATE", PairStairs.STATE, -4);
        CHECK.due("SPENT", PairStairs.SPENT, -6);
        CHECK.due("NONE", PairStairs.NONE, -9);
    }

    private static void nestedClassesAreStaticAndHidden() {
        for (Class<?> nested : PairStairs.class.getDeclaredClasses()) {
            CHECK.holds(nested + " is static", Modifier.isStatic(nested.getModifiers()));
            CHECK.holds(nested + " is hidden", !Modifier.isPublic(nested.getModifiers()));
        }
        CHECK.holds("at most twelve classes", PairStairs.class.getDeclaredClasses().length < 12);
    }

    private static String withoutComments(String source) {
        return source.replaceAll("(?s)/\\*.*?\\*/", " ").replaceAll("//[^\n]*", " ");
    }

    private static void nothingForbiddenStandsInTheSource(String code) {
        for (String word : FORBIDDEN) {
            String bounds = Character.isLetter(word.charAt(0)) ? "\\b" : "";
            CHECK.holds("no " + word, !Pattern.compile(bounds + word + bounds).matcher(code).find());
        }
        Matcher imported = Pattern.compile("import ([^;]+);").matcher(code);
        while (imported.find()) {
            CHECK.holds("import " + imported.group(1), Set.of("java.util.Arrays", "java.util.List",
                "java.util.ArrayList").contains(imported.group(1)));
        }
        CHECK.holds("no package", !Pattern.compile("(?m)^package").matcher(code).find());
        for (char sign : code.toCharArray()) {
            if (sign > 126) {
                CHECK.holds("a plain sign " + (int) sign, false);
            }
        }
    }

    private static void methodsAreShort(String source) {
        List<Integer> starts = new ArrayList<>();
        String[] lines = source.split("\n");
        for (int k = 0; k < lines.length; k++) {
            if (lines[k].matches(" {4}( {4})?[\\w\\[\\]][^=;]*\\) \\{") && !lines[k].contains(" if ")) {
                starts.add(k);
            }
        }
        CHECK.holds("methods were found", starts.size() > 60);
        for (int start : starts) {
            String indent = lines[start].replaceAll("\\S.*", "");
            int end = start;
            while (!lines[end].equals(indent + "}")) {
                end++;
            }
            CHECK.holds(lines[start].trim() + " is short", end - start < LONGEST_METHOD);
        }
    }

    private static void noPrivateMethodBearsAPublicName() {
        Set<String> open = new TreeSet<>();
        for (Method method : PairStairs.class.getDeclaredMethods()) {
            if (Modifier.isPublic(method.getModifiers())) {
                open.add(method.getName());
            }
        }
        List<Class<?>> classes = new ArrayList<>(List.of(PairStairs.class.getDeclaredClasses()));
        classes.add(PairStairs.class);
        for (Class<?> one : classes) {
            for (Method method : one.getDeclaredMethods()) {
                boolean hidden = !Modifier.isPublic(method.getModifiers());
                CHECK.holds(method + " bears a name of its own", !hidden || !open.contains(method.getName()));
                CHECK.holds(method + " has at most seven parameters", method.getParameterCount() <= 7);
            }
        }
    }

    private FaceTests() {
    }
}
