import java.lang.reflect.Constructor;
import java.lang.reflect.Field;
import java.lang.reflect.Method;
import java.lang.reflect.Modifier;
import java.nio.file.Files;
import java.nio.file.Path;
import java.util.Set;
import java.util.TreeSet;
import java.util.regex.Matcher;
import java.util.regex.Pattern;

/** The document's face and no other, and the rules of LANGUAGE.md that can be seen in the text. */
public final class FaceTest {
    private static final Set<String> FACE = Set.of(
        "int add(int,int,int,int,int)", "int cut(int)", "int latency(int,int)", "int units(int)", "int delay(int,int)",
        "int about(int,int)", "int listed(int)", "int length(int)", "int place(int,int)", "int check()",
        "int wrong(int)", "int given(int,int,int)", "int run(int)", "int value(int,int)");

    private static final Due due = new Due();

    public static void main(String[] args) throws Exception {
        members();
        nested();
        text(Files.readString(Path.of("src/main/java/BlockBench.java")));
        due.end("FaceTest");
    }

    private static String face(Method m) {
        StringBuilder line = new StringBuilder(m.getReturnType().getName() + " " + m.getName() + "(");
        for (Class<?> type : m.getParameterTypes()) {
            line.append(line.charAt(line.length() - 1) == '(' ? "" : ",").append(type.getName());
        }
        return line.append(")").toString();
    }

    private static void members() throws Exception {
        int type = BlockBench.class.getModifiers();
        due.holds("the class is public and final", Modifier.isPublic(type) && Modifier.isFinal(type));
        Set<String> open = new TreeSet<>();
        for (Method m : BlockBench.class.getDeclaredMethods()) {
            if (!Modifier.isPrivate(m.getModifiers())) {
                due.holds(m + " is public, not static", m.getModifiers() == Modifier.PUBLIC);
                open.add(face(m));
            }
        }
        due.holds("the methods are those of the document: " + open, open.equals(FACE));
        Set<String> constants = new TreeSet<>();
        for (Field f : BlockBench.class.getDeclaredFields()) {
            if (!Modifier.isPrivate(f.getModifiers())) {
                constants.add(f.getName() + " " + Modifier.toString(f.getModifiers()) + " " + f.getInt(null));
            }
        }
        due.holds("the constants are those of the document: " + constants, constants.equals(
            Set.of("BAD public static final -1", "FULL public static final -2", "NO public static final -3")));
        Constructor<?>[] made = BlockBench.class.getDeclaredConstructors();
        due.holds("one public constructor without arguments",
            made.length == 1 && made[0].getParameterCount() == 0 && Modifier.isPublic(made[0].getModifiers()));
    }

    private static void nested() {
        Set<String> names = new TreeSet<>();
        for (String line : FACE) {
            names.add(line.substring(4, line.indexOf('(')));
        }
        Class<?>[] inside = BlockBench.class.getDeclaredClasses();
        due.holds("at most twelve classes", inside.length < 12);
        for (Class<?> c : inside) {
            int type = c.getModifiers();
            due.holds(c + " is static and not public", Modifier.isStatic(type) && !Modifier.isPublic(type));
            due.holds(c + " has few fields", c.getDeclaredFields().length <= 20);
            for (Method m : c.getDeclaredMethods()) {
                due.holds(m + " bears no name of the face", !names.contains(m.getName()));
                due.holds(m + " has at most seven parameters", m.getParameterCount() <= 7);
            }
        }
    }

    private static void text(String source) {
        String code = source.replaceAll("(?s)/\\*.*?\\*/", " ").replaceAll("//[^\n]*", " ");
        String[] absent = {
            "\\bcatch\\b", "\\btry\\b", "\\bthrow\\b", "\\bfinally\\b", "\\bsynchronized\\b", "\\bassert\\b", "->", "::",
            "Exact\\b", "\\bpackage\\b", "\\bdouble\\b", "\\bfloat\\b", "\\bstatic\\s*\\{", "\\bprotected\\b"
        };
        for (String word : absent) {
            due.holds("no " + word, !Pattern.compile(word).matcher(code).find());
        }
        Matcher imports = Pattern.compile("import\\s+([^;]+);").matcher(code);
        while (imports.find()) {
            due.holds("import of " + imports.group(1), imports.group(1).equals("java.util.Arrays"));
        }
        Matcher library = Pattern.compile("\\b(Math|Arrays|System|Integer|Long)\\.(\\w+)").matcher(code);
        Set<String> listed = Set.of("Math.max", "Math.min", "Math.floorMod", "Arrays.fill", "System.arraycopy");
        while (library.find()) {
            due.holds("library: " + library.group(), listed.contains(library.group()));
        }
    }
}
