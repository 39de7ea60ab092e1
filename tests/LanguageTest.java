import java.lang.reflect.Constructor;
import java.lang.reflect.Field;
import java.lang.reflect.Method;
import java.lang.reflect.Modifier;
import java.nio.charset.StandardCharsets;
import java.nio.file.Files;
import java.nio.file.Path;
import java.util.ArrayList;
import java.util.List;
import java.util.TreeSet;
import java.util.regex.Matcher;
import java.util.regex.Pattern;

/**
 * The face that ../shared/DOC.md tells, and those rules of ../shared/LANGUAGE.md that a look at the file and at
 * the compiled classes can tell. Run it from the project's own directory.
 */
public final class LanguageTest {
    private static int wrong = 0;

    private static void due(boolean fine, String rule) {
        if (!fine) {
            wrong++;
            System.out.println(rule);
        }
    }

    public static void main(String[] args) throws Exception {
        String document = Files.readString(Path.of("../shared/DOC.md"), StandardCharsets.UTF_8);
        String source = Files.readString(Path.of("src/main/java/EvenErrors.java"), StandardCharsets.UTF_8);
        face(document);
        classes();
        String code = bare(source);
        words(code);
        methods(code);
        System.out.println(wrong == 0 ? "the face and the language are as told" : wrong + " faults");
        if (wrong != 0) {
            System.exit(1);
        }
    }

    private static void face(String document) throws Exception {
        int from = document.indexOf("public final class EvenErrors {");
        String told = document.substring(from, document.indexOf("```", from));
        TreeSet<String> want = new TreeSet<>();
        Matcher m = Pattern.compile("public (int|long) (\\w+)\\(([^)]*)\\);").matcher(told);
        while (m.find()) {
            want.add(m.group(1) + " " + m.group(2) + "(" + m.group(3).replaceAll(" \\w+(,|$)", "$1") + ")");
        }
        TreeSet<String> got = new TreeSet<>();
        TreeSet<String> hidden = new TreeSet<>();
        TreeSet<String> open = new TreeSet<>();
        for (Method method : EvenErrors.class.getDeclaredMethods()) {
            if (Modifier.isPublic(method.getModifiers())) {
                got.add(method.toString().replaceAll("^public ", "").replace("EvenErrors.", "").replace(",", ", "));
                open.add(method.getName());
            } else {
                due(Modifier.isPrivate(method.getModifiers()), "rule 1: not private: " + method);
                hidden.add(method.getName());
            }
        }
        due(got.equals(want), "the face is " + got + ", due is " + want);
        for (Class<?> inner : EvenErrors.class.getDeclaredClasses()) {
            for (Method method : inner.getDeclaredMethods()) {
                if (Modifier.isPrivate(method.getModifiers())) {
                    hidden.add(method.getName());
                }
            }
        }
        hidden.retainAll(open);
        due(hidden.isEmpty(), "rule 1: private methods bear the name of a public one: " + hidden);
        constants(told);
        Constructor<?>[] constructors = EvenErrors.class.getDeclaredConstructors();
        due(constructors.length == 1 && Modifier.isPublic(constructors[0].getModifiers())
            && constructors[0].getParameterCount() == 0, "the constructor is not as told");
        due(Modifier.isFinal(EvenErrors.class.getModifiers()) && Modifier.isPublic(EvenErrors.class.getModifiers()),
            "the class is not public and final");
    }

    private static void constants(String told) throws Exception {
        TreeSet<String> want = new TreeSet<>();
        Matcher m = Pattern.compile("([A-Z]+) = (-\\d+)").matcher(told);
        while (m.find()) {
            want.add(m.group(1) + " " + m.group(2));
        }
        TreeSet<String> got = new TreeSet<>();
        for (Field field : EvenErrors.class.getDeclaredFields()) {
            int modifiers = field.getModifiers();
            if (Modifier.isPublic(modifiers)) {
                got.add(field.getName() + " " + field.getInt(null));
                due(Modifier.isStatic(modifiers) && Modifier.isFinal(modifiers) && field.getType() == int.class,
                    "not a constant: " + field);
            } else {
                due(Modifier.isPrivate(modifiers), "rule 1: not private: " + field);
            }
        }
        due(got.equals(want), "the constants are " + got + ", due is " + want);
    }

    private static void classes() {
        List<Class<?>> all = new ArrayList<>();
        all.add(EvenErrors.class);
        for (Class<?> inner : EvenErrors.class.getDeclaredClasses()) {
            all.add(inner);
            due(Modifier.isStatic(inner.getModifiers()) && !Modifier.isPublic(inner.getModifiers())
                && !Modifier.isProtected(inner.getModifiers()), "rule 1, 2: " + inner);
            due(inner.getDeclaredClasses().length == 0, "classes inside " + inner);
        }
        due(all.size() <= 12, "rule 11: " + all.size() + " classes");
        for (Class<?> one : all) {
            int own = 0;
            for (Field field : one.getDeclaredFields()) {
                int modifiers = field.getModifiers();
                if (Modifier.isStatic(modifiers)) {
                    due(Modifier.isFinal(modifiers), "rule 5: not final: " + field);
                    due(field.getType().isPrimitive(), "rule 5: " + field);
                } else {
                    own++;
                }
            }
            due(own <= 20, "rule 11: " + own + " fields in " + one);
            for (Method method : one.getDeclaredMethods()) {
                due(method.getParameterCount() <= 7, "rule 11: parameters of " + method);
            }
        }
    }

    /** The source without its comments and without what stands in signs and texts. */
    private static String bare(String source) {
        return source.replaceAll("(?s)/\\*.*?\\*/", " ").replaceAll("//[^\n]*", " ")
            .replaceAll("'(\\\\.|[^'\\\\])'", "'c'").replaceAll("\"(\\\\.|[^\"\\\\])*\"", "\"\"");
    }

    private static void words(String code) {
        String[] banned = {"throw", "throws", "try", "catch", "finally", "synchronized", "assert", "volatile", "native",
            "transient", "package", "double", "float", "System\\.(?!arraycopy)", "Thread", "Random", "hashCode", "equals",
            "toString", "Exception", "Error", "\\w+Exact", "reflect", "import"};
        for (String word : banned) {
            Matcher m = Pattern.compile("(?<![\\w.])" + word + (word.endsWith(")") ? "" : "\\b")).matcher(code);
            due(!m.find(), "a word that is not of the language: " + word);
        }
        due(!code.contains("->"), "rule 2: a lambda, or a switch by arrows");
        due(!code.contains("::"), "rule 2: a method reference");
        due(!code.contains("\""), "no text is needed");
        due(!Pattern.compile("\\bwhile\\b").matcher(code).find(), "rule 9: a loop whose bound isn't in its head");
        for (Matcher m = Pattern.compile("\\bfor \\(([^;]*);([^;]*);").matcher(code); m.find();) {
            due(m.group(2).contains("<") || m.group(2).contains(">"), "rule 9: a loop without a bound: " + m.group());
        }
    }

    private static void methods(String code) {
        Matcher m = Pattern.compile("(?m)^( {4}| {8})((?:public |private |static )*[\\w\\[\\]]+ \\w+\\([^)]*\\)) \\{\n").matcher(code);
        int seen = 0;
        while (m.find()) {
            seen++;
            int end = code.indexOf("\n" + m.group(1) + "}", m.start());
            int lines = code.substring(m.start(), end).split("\n").length;
            due(lines <= 60, "rule 11: " + lines + " lines in " + m.group(2));
        }
        due(seen > 60, "the methods were not found");
    }
}
