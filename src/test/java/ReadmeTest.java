import java.lang.reflect.Method;
import java.lang.reflect.Modifier;
import java.nio.file.Files;
import java.nio.file.Path;
import java.util.Set;
import java.util.TreeSet;
import java.util.regex.Matcher;
import java.util.regex.Pattern;

/**
 * Plays the examples of README.md, one object for all of them, and compares each answer with the one that
 * stands behind the call. Every call of them must tell its answer, every method of the face must be among them.
 */
public final class ReadmeTest {
    private static final Pattern EXAMPLE = Pattern.compile("(?ms)^```java$(.*?)^```$");
    private static final Pattern CALL = Pattern.compile("p\\.(\\w+)\\(([^)]*)\\);\\s*// (-?\\d+|true|false)(:.*)?");

    private static final CellPictures PICTURES = new CellPictures();
    private static final Set<String> SHOWN = new TreeSet<>();
    private static int wrong = 0;
    private static int calls = 0;

    public static void main(String[] args) throws Exception {
        Matcher example = EXAMPLE.matcher(Files.readString(Path.of("README.md")));
        while (example.find()) {
            for (String line : example.group(1).split("\n")) {
                play(line.trim());
            }
        }
        for (Method m : CellPictures.class.getDeclaredMethods()) {
            if (Modifier.isPublic(m.getModifiers()) && !SHOWN.contains(m.getName())) {
                complain("no example has " + m.getName());
            }
        }
        System.out.println(calls + " calls of README.md: "
                + (wrong == 0 ? "all are as due" : wrong + " things are not as due"));
        if (wrong != 0) {
            System.exit(1);
        }
    }

    private static void play(String line) throws Exception {
        if (line.isEmpty() || line.startsWith("//") || line.equals("CellPictures p = new CellPictures();")) {
            return;
        }
        Matcher call = CALL.matcher(line);
        if (!call.matches()) {
            complain("no call with its answer: " + line);
            return;
        }
        calls++;
        SHOWN.add(call.group(1));
        String answer = String.valueOf(answerOf(call.group(1), call.group(2)));
        if (!answer.equals(call.group(3))) {
            complain(line + " answered " + answer);
        }
    }

    private static Object answerOf(String name, String written) throws Exception {
        String[] numbers = written.isEmpty() ? new String[0] : written.split(", ");
        Object[] values = new Object[numbers.length];
        Class<?>[] types = new Class<?>[numbers.length];
        for (int i = 0; i < numbers.length; i++) {
            values[i] = Integer.decode(numbers[i]);
            types[i] = int.class;
        }
        return CellPictures.class.getMethod(name, types).invoke(PICTURES, values);
    }

    private static void complain(String what) {
        wrong++;
        System.out.println(what);
    }
}
