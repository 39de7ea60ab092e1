import java.lang.reflect.Method;
import java.lang.reflect.Modifier;
import java.nio.charset.StandardCharsets;
import java.nio.file.Files;
import java.nio.file.Path;
import java.util.ArrayList;
import java.util.Arrays;
import java.util.Comparator;
import java.util.List;
import java.util.Map;
import java.util.TreeMap;

/**
 * Runs a test for each sentence of ../shared/DOC.md that names a boundary case, and looks whether the sentence
 * stands there, and whether each refusal that a promise names has a test. Arguments are parts of names of tests:
 * just these run. Run it from the project's own directory.
 */
public final class BoundaryTest {
    private static final List<Class<?>> TESTS = List.of(TermsBoundaries.class, PointsBoundaries.class,
        TextBoundaries.class, FitBoundaries.class, DoneBoundaries.class, SheetsBoundaries.class);
    private static final String[] REFUSALS = {"BAD", "NOT", "FULL", "NONE", "NULL", "CAST", "INDEX", "SIZE"};
    private static final int PROMISES = 28;
    private static int wrong = 0;

    public static void main(String[] args) throws Exception {
        Map<String, String> sections = sections();
        Map<String, String> quoted = new TreeMap<>();
        int run = 0;
        for (Class<?> tests : TESTS) {
            for (Method test : testsOf(tests)) {
                Sentence sentence = test.getAnnotation(Sentence.class);
                String section = sections.getOrDefault(sentence.in(), "");
                fine(section.contains(sentence.says()), test.getName() + ": " + sentence.in() + " doesn't say " + sentence.says());
                quoted.merge(sentence.in(), sentence.says() + "\n", String::concat);
                if (args.length == 0 || Arrays.stream(args).anyMatch(test.getName()::contains)) {
                    run(test, sentence);
                    run++;
                }
            }
        }
        eachRefusalIsQuoted(sections, quoted);
        System.out.println(wrong == 0 ? run + " tests of sentences hold, by " + Boundaries.asked() + " answers"
            : wrong + " faults");
        if (wrong != 0) {
            System.exit(1);
        }
    }

    private static void fine(boolean so, String fault) {
        if (!so) {
            wrong++;
            System.out.println(fault);
        }
    }

    private static void run(Method test, Sentence sentence) throws Exception {
        int asked = Boundaries.asked();
        Boundaries.FAULTS.clear();
        test.invoke(null);
        fine(Boundaries.asked() > asked, test.getName() + " asks nothing");
        for (String fault : Boundaries.FAULTS) {
            fine(false, test.getName() + " (" + sentence.in() + ": \"" + sentence.says() + "\"), " + fault);
        }
    }

    private static List<Method> testsOf(Class<?> tests) {
        List<Method> found = new ArrayList<>();
        for (Method method : tests.getDeclaredMethods()) {
            if (method.isAnnotationPresent(Sentence.class)) {
                found.add(method);
            } else {
                fine(method.isSynthetic() || Modifier.isPrivate(method.getModifiers()),
                    method.getName() + " is no test: it has no sentence");
            }
        }
        found.sort(Comparator.comparing(Method::getName));
        return found;
    }

    /** "Terms", "Promise 2" and so on, each with its words, all white space being one blank. */
    private static Map<String, String> sections() throws Exception {
        String document = Files.readString(Path.of("../shared/DOC.md"), StandardCharsets.UTF_8);
        Map<String, String> sections = new TreeMap<>();
        for (String section : document.split("(?m)^## ")) {
            String head = section.split("\n", 2)[0];
            sections.put(head.split(":", 2)[0], section.replaceAll("\\s+", " "));
        }
        return sections;
    }

    private static void eachRefusalIsQuoted(Map<String, String> sections, Map<String, String> quoted) {
        for (int promise = 1; promise <= PROMISES; promise++) {
            String in = "Promise " + promise;
            String section = sections.getOrDefault(in, "");
            fine(!section.isEmpty(), "the document has no " + in);
            fine(quoted.containsKey(in), in + " has no test");
            for (String refusal : REFUSALS) {
                fine(!names(section, refusal) || names(quoted.getOrDefault(in, ""), refusal),
                    in + " names " + refusal + ", and no test quotes it");
            }
        }
    }

    private static boolean names(String text, String refusal) {
        return text.matches("(?s).*\\b" + refusal + "\\b.*");
    }
}
