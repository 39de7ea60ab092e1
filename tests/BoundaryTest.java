import java.lang.reflect.Method;
import java.lang.reflect.Modifier;
import java.nio.charset.StandardCharsets;
import java.nio.file.Files;
import java.nio.file.Path;
import java.util.ArrayList;
import java.util.Arrays;
import java.util.Comparator;
import java.util.List;
import java.util.Map;
import java.util.TreeMap;
import java.util.regex.Matcher;
import java.util.regex.Pattern;

/**
 * Runs tests for each sentence of ../shared/DOC.md, most of them of its boundary cases, and looks whether the sentence
 * stands there, and whether a test quotes each word of Terms and of the promises. Arguments are parts of names of
 * tests: just these run. Run it from the project's own directory.
 */
public final class BoundaryTest {
    private static final List<Class<?>> TESTS = List.of(TermsBoundaries.class, PointsBoundaries.class,
        TextBoundaries.class, FitBoundaries.class, DoneBoundaries.class, SheetsBoundaries.class, PlainSentences.class);
    private static final int PROMISES = 28;
    /** What of a section is no sentence of its own. */
    private static final String[] HEADINGS = {"^Terms", "^Promise [0-9]+: [^`]*`[^`]*`:", "```text", "====( [12](?= ))?",
        "Ahead of the calls (`[a-z]+`,? )+the interface says: ----( [123] (points|the fit|what is done))?"};
    private static int wrong = 0;

    public static void main(String[] args) throws Exception {
        Map<String, String> sections = sections();
        Map<String, String> quoted = new TreeMap<>();
        int run = 0;
        for (Class<?> tests : TESTS) {
            for (Method test : testsOf(tests)) {
                Sentence sentence = test.getAnnotation(Sentence.class);
                String section = sections.getOrDefault(sentence.in(), "");
                fine(section.contains(sentence.says()), test.getName() + ": " + sentence.in() + " doesn't say " + sentence.says());
                quoted.merge(sentence.in(), sentence.says() + "\n", String::concat);
                if (args.length == 0 || Arrays.stream(args).anyMatch(test.getName()::contains)) {
                    run(test, sentence);
                    run++;
                }
            }
        }
        eachWordIsQuoted(sections, quoted);
        System.out.println(wrong == 0 ? run + " tests of sentences hold, by " + Boundaries.asked() + " answers"
            : wrong + " faults");
        if (wrong != 0) {
            System.exit(1);
        }
    }

    private static void fine(boolean so, String fault) {
        if (!so) {
            wrong++;
            System.out.println(fault);
        }
    }

    private static void run(Method test, Sentence sentence) throws Exception {
        int asked = Boundaries.asked();
        Boundaries.FAULTS.clear();
        test.invoke(null);
        fine(Boundaries.asked() > asked, test.getName() + " asks nothing");
        for (String fault : Boundaries.FAULTS) {
            fine(false, test.getName() + " (" + sentence.in() + ": \"" + sentence.says() + "\"), " + fault);
        }
    }

    private static List<Method> testsOf(Class<?> tests) {
        List<Method> found = new ArrayList<>();
        for (Method method : tests.getDeclaredMethods()) {
            if (method.isAnnotationPresent(Sentence.class)) {
                found.add(method);
            } else {
                fine(method.isSynthetic() || Modifier.isPrivate(method.getModifiers()),
                    method.getName() + " is no test: it has no sentence");
            }
        }
        found.sort(Comparator.comparing(Method::getName));
        return found;
    }

    /** "Terms", "Promise 2" and so on, each with its words, all white space being one blank. */
    private static Map<String, String> sections() throws Exception {
        String document = Files.readString(Path.of("../shared/DOC.md"), StandardCharsets.UTF_8);
        Map<String, String> sections = new TreeMap<>();
        for (String section : document.split("(?m)^## ")) {
            String head = section.split("\n", 2)[0];
            sections.put(head.split(":", 2)[0], section.replaceAll("\\s+", " "));
        }
        return sections;
    }

    /** Headings and faces aside, each word of Terms and of each promise stands in a quote. */
    private static void eachWordIsQuoted(Map<String, String> sections, Map<String, String> quoted) {
        for (int promise = 0; promise <= PROMISES; promise++) {
            String in = promise == 0 ? "Terms" : "Promise " + promise;
            String section = sections.getOrDefault(in, "");
            fine(!section.isEmpty(), "the document has no " + in);
            boolean[] held = new boolean[section.length()];
            for (String heading : HEADINGS) {
                hold(held, section, heading);
            }
            for (String quote : quoted.getOrDefault(in, "").split("\n")) {
                hold(held, section, Pattern.quote(quote));
            }
            String left = leftOver(section, held);
            fine(left.isEmpty(), in + " says, and no test quotes it: " + left);
        }
    }

    private static void hold(boolean[] held, String section, String pattern) {
        Matcher matcher = Pattern.compile(pattern).matcher(section);
        while (matcher.find()) {
            Arrays.fill(held, matcher.start(), matcher.end(), true);
        }
    }

    private static String leftOver(String section, boolean[] held) {
        StringBuilder left = new StringBuilder();
        for (int k = 0; k < held.length; k++) {
            left.append(held[k] ? '.' : section.charAt(k));
        }
        return left.toString().matches(".*[A-Za-z0-9].*") ? left.toString().replaceAll("[ .]{2,}", " .. ") : "";
    }
}
