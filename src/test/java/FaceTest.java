import java.lang.reflect.Constructor;
import java.lang.reflect.Field;
import java.lang.reflect.Method;
import java.lang.reflect.Modifier;
import java.nio.file.Files;
import java.nio.file.Path;
import java.util.ArrayList;
import java.util.List;
import java.util.Set;
import java.util.TreeSet;
import java.util.regex.Matcher;
import java.util.regex.Pattern;

/** The public face is the document's and no more; the source keeps to what can be told of it by words. */
public final class FaceTest {
    private static final List<String> FACE = List.of(
            "int feed(int,int,int,int,int)", "int end(int)", "int load()", "int fault()", "boolean blank(int,int,int)",
            "int about(int)", "int run(int,int,int)", "boolean give(int,int,int)", "int given(int,int)",
            "boolean fresh()", "int rule(int)", "long ways(int)", "int rest()", "int tries()", "int set(int,int)",
            "int search(int,int)", "int nodes()", "int solution(int,int,int)", "int level()",
            "boolean mark(int,int,int)", "int marked(int,int)", "int done()", "int wrong()", "int hint()", "int draw()",
            "int mend()");
    private static int wrong = 0;

    private static void check(boolean is, String what) {
        if (!is) {
            wrong++;
            System.out.println(what);
        }
    }

    public static void main(String[] args) throws Exception {
        Class<?> face = CellPictures.class;
        check(Modifier.isPublic(face.getModifiers()) && Modifier.isFinal(face.getModifiers()), "public final class");
        checkMethods(face);
        checkFields(face);
        Constructor<?>[] constructors = face.getDeclaredConstructors();
        check(constructors.length == 1 && Modifier.isPublic(constructors[0].getModifiers())
                && constructors[0].getParameterCount() == 0, "one public constructor without parameters");
        checkClasses(face);
        checkSource(Files.readAllLines(Path.of("src/main/java/CellPictures.java")));
        System.out.println(wrong == 0 ? "the face is as due" : wrong + " things of the face are not as due");
        if (wrong != 0) {
            System.exit(1);
        }
    }

    private static void checkMethods(Class<?> face) {
        Set<String> seen = new TreeSet<>();
        for (Method m : face.getDeclaredMethods()) {
            if (Modifier.isPublic(m.getModifiers())) {
                List<String> types = new ArrayList<>();
                for (Class<?> t : m.getParameterTypes()) {
                    types.add(t.getName());
                }
                seen.add(m.getReturnType().getName() + " " + m.getName() + "(" + String.join(",", types) + ")");
                check(!Modifier.isStatic(m.getModifiers()), m + " is static");
            } else {
                check(Modifier.isPrivate(m.getModifiers()), m + " is neither public nor private");
            }
        }
        check(seen.equals(new TreeSet<>(FACE)), "the public methods are " + seen);
    }

    private static void checkFields(Class<?> face) throws Exception {
        for (Field f : face.getDeclaredFields()) {
            boolean isNone = f.getName().equals("NONE");
            check(isNone ? Modifier.isPublic(f.getModifiers()) : Modifier.isPrivate(f.getModifiers()), "seen: " + f);
        }
        check(face.getField("NONE").getInt(null) == -1, "NONE");
    }

    private static void checkClasses(Class<?> face) {
        Set<String> names = new TreeSet<>();
        FACE.forEach(line -> names.add(line.replaceAll("^\\w+ |\\(.*", "")));
        List<Class<?>> all = new ArrayList<>(List.of(face.getDeclaredClasses()));
        all.add(face);
        check(all.size() <= 12, "more than twelve classes");
        for (Class<?> c : all) {
            check(Modifier.isStatic(c.getModifiers()) || c == face, c + " is not static");
            int fields = 0;
            for (Field f : c.getDeclaredFields()) {
                fields += Modifier.isStatic(f.getModifiers()) ? 0 : 1;
                check(!Modifier.isStatic(f.getModifiers()) || Modifier.isFinal(f.getModifiers()), "static state: " + f);
            }
            check(fields <= 20, c + " has " + fields + " fields");
            for (Method m : c.getDeclaredMethods()) {
                check(c == face && Modifier.isPublic(m.getModifiers()) || !names.contains(m.getName()),
                        "a public method's name: " + m);
                check(m.getParameterCount() <= 7, "more than seven parameters: " + m);
            }
        }
    }

    private static void checkSource(List<String> lines) {
        Pattern outside = Pattern.compile(
                "\\b(throw|throws|try|catch|synchronized|assert|protected|package)\\b|->|::"
                + "|\\bwhile \\(true\\)|for \\(;;");
        Pattern begin = Pattern.compile("^( {4}| {8})(public|private) .*\\) \\{$");
        for (int i = 0; i < lines.size(); i++) {
            String code = lines.get(i).replaceAll("//.*|^\\s*/?\\*.*", "");
            Matcher m = outside.matcher(code);
            check(!m.find(), "line " + (i + 1) + " is outside the language: " + code);
            Matcher b = begin.matcher(code);
            if (b.find()) {
                int end = i;
                while (!lines.get(end).equals(b.group(1) + "}")) {
                    end++;
                }
                check(end - i < 60, "line " + (i + 1) + ": a method of " + (end - i + 1) + " lines");
            }
        }
    }
}
