import java.lang.reflect.InvocationTargetException;
import java.lang.reflect.Method;
import java.util.Arrays;
import java.util.BitSet;
import java.util.Comparator;
import java.util.Map;
import java.util.TreeMap;

/**
 * Runs the tests of a class: each is a static method promise<n>_.., term<n>_.. or others_.. with the
 * sentence of that section which it is of. It also fails if a quoted sentence is not in the document,
 * or if a word of those sections is in no quotation: then a sentence has no test.
 */
public final class Sentences {
    private static String test = "";
    private static int answers = 0;
    private static int wrong = 0;

    private Sentences() {
    }

    public static void due(String what, long got, long want) {
        due(what, Long.toString(got), Long.toString(want));
    }

    public static void due(String what, boolean got, boolean want) {
        due(what, Boolean.toString(got), Boolean.toString(want));
    }

    public static void due(String what, String got, String want) {
        answers++;
        if (!got.equals(want)) {
            fail(what + " answered " + got + ", due is " + want);
        }
    }

    private static void fail(String how) {
        wrong++;
        System.out.println(test + ": " + how);
    }

    /** Runs all tests; kinds are how the names of the sections begin that they must cover. */
    public static void runAll(Class<?> tests, String... kinds) throws Exception {
        if (!Document.isThere()) {
            System.out.println("the document is not there: no quotation is compared");
        }
        Map<String, String> sections = Document.sections();
        sections.keySet().removeIf(name -> Arrays.stream(kinds).noneMatch(name::startsWith));
        Map<String, BitSet> quoted = new TreeMap<>();
        sections.forEach((name, words) -> quoted.put(name, new BitSet(words.length())));
        Method[] methods = tests.getDeclaredMethods();
        Arrays.sort(methods, Comparator.comparing(Method::getName));
        int ran = 0;
        for (Method m : methods) {
            if (m.getName().contains("_")) {
                test = m.getName();
                quote(m, sections, quoted);
                run(m);
                ran++;
            }
        }
        quoted.forEach((name, marks) -> reportUnquoted(name, sections.get(name), marks));
        System.out.println(ran + " sentences, " + answers + " answers: "
                + (wrong == 0 ? "all are as due" : wrong + " are not as due"));
        if (wrong != 0) {
            System.exit(1);
        }
    }

    private static void run(Method m) throws IllegalAccessException {
        m.setAccessible(true);
        int ahead = answers;
        try {
            m.invoke(null);
        } catch (InvocationTargetException e) {
            fail("threw " + e.getCause());
        }
        if (answers == ahead) {
            fail("asks nothing");
        }
    }

    private static void quote(Method m, Map<String, String> sections, Map<String, BitSet> quoted) {
        if (!Document.isThere()) {
            return;
        }
        String section = m.getName().substring(0, m.getName().indexOf('_'));
        String words = sections.get(section);
        Sentence sentence = m.getAnnotation(Sentence.class);
        if (words == null || sentence == null) {
            fail("names no section, or has no sentence");
            return;
        }
        int at = words.indexOf(sentence.value());
        if (at < 0) {
            fail("the document does not say: " + sentence.value());
        }
        while (at >= 0) {
            quoted.get(section).set(at, at + sentence.value().length());
            at = words.indexOf(sentence.value(), at + 1);
        }
    }

    private static void reportUnquoted(String section, String words, BitSet quoted) {
        test = section;
        for (int from = 0; from < words.length();) {
            int at = quoted.nextClearBit(from);
            int end = quoted.nextSetBit(at);
            int to = end < 0 ? words.length() : end;
            if (at < words.length() && words.substring(at, to).matches(".*[A-Za-z0-9].*")) {
                fail("no test is of: " + words.substring(at, to));
            }
            from = Math.max(to, at + 1);
        }
    }
}
