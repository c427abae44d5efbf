import java.lang.reflect.Constructor;
import java.lang.reflect.Field;
import java.lang.reflect.Method;
import java.lang.reflect.Modifier;
import java.nio.charset.StandardCharsets;
import java.nio.file.Files;
import java.nio.file.Path;
import java.util.Set;
import java.util.TreeSet;
import java.util.regex.Matcher;
import java.util.regex.Pattern;

/** The class shows the document's face and nothing else, and keeps to what LANGUAGE.md says of its text. */
public final class FaceTest {
    private static final Path SOURCE = Path.of("src/main/java/BuiltTwice.java");
    private static final String[] FACE = {
        "int feed(int,int)", "int text()", "int write(int)", "int lack(int,int)", "int word(int,int,int)",
        "int copy(int,int)", "int step(int,int,int)", "int need(int,int)", "int made(int,int)",
        "int at(int,int,int)", "int reads(int,int,int)", "int uses(int,int)", "long orders(int)",
        "int built(int)", "int alike(int,int,int)", "int changes(int,int,int)", "int change(int,int)",
        "int cause(int,int,int)", "int fix(int,int,int)", "int stable(int,int,int,int)",
        "int breaks(int,int,int)", "int rooms(int,int)", "int maker(int,int,int)", "int down(int)",
        "int ring(int,int)", "int needs(int,int)", "int forge(int,int)", "int trust(int)",
        "int heirs(int)", "int count(int)"};
    private static final Set<String> CONSTANTS = Set.of("BAD", "NOT", "FULL", "BIG", "RING");
    private static final String[] OUTSIDE_THE_LANGUAGE = {
        "\\bthrow\\b", "\\bthrows\\b", "\\btry\\b", "\\bcatch\\b", "\\bfinally\\b", "\\bsynchronized\\b",
        "\\bassert\\b", "->", "::", "\\bpackage\\b", "Exact\\b", "\\bvolatile\\b", "\\bprotected\\b",
        "import (?!java\\.util\\.(Arrays|ArrayList|List|Iterator);)", "\\bfor \\(;;", "while \\(true"};

    private static int wrong = 0;

    private static void hold(boolean is, String what) {
        if (!is) {
            wrong++;
            System.out.println("does not hold: " + what);
        }
    }

    public static void main(String[] args) throws Exception {
        methods();
        fieldsAndConstructors();
        text(Files.readString(SOURCE, StandardCharsets.UTF_8));
        System.out.println(wrong + " faults of the face");
        if (wrong != 0) {
            System.exit(1);
        }
    }

    private static void methods() {
        Set<String> names = new TreeSet<>();
        Set<String> seen = new TreeSet<>();
        for (Method m : BuiltTwice.class.getDeclaredMethods()) {
            if (Modifier.isPublic(m.getModifiers())) {
                seen.add(signature(m));
                names.add(m.getName());
            }
        }
        hold(seen.equals(new TreeSet<>(Set.of(FACE))), "the public methods are the document's: " + seen);
        for (Method m : BuiltTwice.class.getDeclaredMethods()) {
            int is = m.getModifiers();
            hold(Modifier.isPublic(is) || Modifier.isPrivate(is), m + " is public or private");
            hold(Modifier.isPublic(is) || !names.contains(m.getName()), m + " does not bear a public name");
        }
        for (Class<?> c : BuiltTwice.class.getDeclaredClasses()) {
            hold(Modifier.isStatic(c.getModifiers()), c + " is static");
            for (Method m : c.getDeclaredMethods()) {
                hold(!names.contains(m.getName()), m + " does not bear a public name");
                hold(m.getParameterCount() <= 7, m + " has at most seven parameters");
            }
            hold(c.getDeclaredFields().length <= 20, c + " has some twenty fields");
        }
        hold(BuiltTwice.class.getDeclaredClasses().length <= 12, "some twelve classes");
    }

    private static String signature(Method m) {
        StringBuilder s = new StringBuilder(m.getReturnType() + " " + m.getName() + "(");
        for (Class<?> p : m.getParameterTypes()) {
            s.append(s.charAt(s.length() - 1) == '(' ? "" : ",").append(p);
        }
        return s.append(")").toString();
    }

    private static void fieldsAndConstructors() {
        hold(Modifier.isFinal(BuiltTwice.class.getModifiers()), "the class is final");
        for (Constructor<?> c : BuiltTwice.class.getDeclaredConstructors()) {
            hold(Modifier.isPublic(c.getModifiers()) && c.getParameterCount() == 0, c + " is the document's");
        }
        for (Field f : BuiltTwice.class.getDeclaredFields()) {
            int is = f.getModifiers();
            hold(CONSTANTS.contains(f.getName()) ? Modifier.isPublic(is) : Modifier.isPrivate(is), f + " is as said");
            hold(!Modifier.isStatic(is) || Modifier.isFinal(is), f + " is final if it is static");
        }
    }

    private static void text(String source) {
        String code = source.replaceAll("(?s)/\\*.*?\\*/", "").replaceAll("//[^\n]*", "");
        for (String rule : OUTSIDE_THE_LANGUAGE) {
            Matcher m = Pattern.compile(rule).matcher(code);
            hold(!m.find(), "the source is without " + rule);
        }
    }
}
