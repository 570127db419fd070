import java.io.IOException;
import java.lang.reflect.Method;
import java.lang.reflect.Modifier;
import java.nio.file.Files;
import java.nio.file.Path;
import java.util.ArrayList;
import java.util.Arrays;
import java.util.List;
import java.util.Set;
import java.util.TreeSet;
import java.util.regex.Matcher;
import java.util.regex.Pattern;
import java.util.stream.Stream;

/** What README.md tells of using the class and of its tests, tried. */
public final class ReadmeTest {
    private static final Pattern BLOCK = Pattern.compile("(?s)```java\n(.*?)```");
    private static final Pattern CALL = Pattern.compile("bench\\.(\\w+)\\(([-0-9, ]*)\\);\\s+// (-?\\d+|BAD|FULL|NO)(:.*)?");
    private static final Pattern ROW = Pattern.compile("(?m)^\\| `(\\w+)\\(([\\w, ]*)\\)`");
    private static final Pattern TEST = Pattern.compile("src/test/java/(\\w+)\\.java");

    private static final Due due = new Due();

    public static void main(String[] args) throws Exception {
        String readme = Files.readString(Path.of("README.md"));
        examples(readme);
        table(readme);
        tests(readme);
        due.end("ReadmeTest");
    }

    /** The face as "name/number of arguments". */
    private static Set<String> face() {
        Set<String> face = new TreeSet<>();
        for (Method m : BlockBench.class.getDeclaredMethods()) {
            if (Modifier.isPublic(m.getModifiers())) {
                face.add(m.getName() + "/" + m.getParameterCount());
            }
        }
        return face;
    }

    private static void examples(String readme) throws Exception {
        BlockBench bench = new BlockBench();
        Set<String> tried = new TreeSet<>();
        Matcher blocks = BLOCK.matcher(readme);
        while (blocks.find()) {
            for (String line : blocks.group(1).split("\n")) {
                Matcher call = CALL.matcher(line);
                if (call.matches()) {
                    int[] arguments = numbers(call.group(2));
                    due.is(line, answer(bench, call.group(1), arguments), meant(call.group(3)));
                    tried.add(call.group(1) + "/" + arguments.length);
                } else {
                    due.holds("a call with its answer: " + line, line.equals("BlockBench bench = new BlockBench();"));
                }
            }
        }
        due.holds("every call of the face is tried: " + tried, tried.equals(face()));
    }

    private static int answer(BlockBench bench, String name, int[] arguments) throws Exception {
        Class<?>[] types = new Class<?>[arguments.length];
        Arrays.fill(types, int.class);
        Object[] values = new Object[arguments.length];
        for (int k = 0; k < values.length; k++) {
            values[k] = arguments[k];
        }
        return (Integer) BlockBench.class.getMethod(name, types).invoke(bench, values);
    }

    private static int[] numbers(String list) {
        if (list.isBlank()) {
            return new int[0];
        }
        return Stream.of(list.split(",")).mapToInt(word -> Integer.parseInt(word.trim())).toArray();
    }

    private static int meant(String answer) {
        return switch (answer) {
            case "BAD" -> BlockBench.BAD;
            case "FULL" -> BlockBench.FULL;
            case "NO" -> BlockBench.NO;
            default -> Integer.parseInt(answer);
        };
    }

    private static void table(String readme) {
        Set<String> told = new TreeSet<>();
        Matcher rows = ROW.matcher(readme);
        while (rows.find()) {
            String arguments = rows.group(2);
            told.add(rows.group(1) + "/" + (arguments.isEmpty() ? 0 : arguments.split(",").length));
        }
        due.holds("the table tells the calls of the face: " + told, told.equals(face()));
    }

    private static void tests(String readme) throws IOException {
        Set<String> told = new TreeSet<>();
        Matcher names = TEST.matcher(readme);
        while (names.find()) {
            told.add(names.group(1));
        }
        List<String> there = new ArrayList<>();
        try (Stream<Path> files = Files.list(Path.of("src/test/java"))) {
            files.map(file -> file.getFileName().toString())
                .filter(name -> name.endsWith("Test.java"))
                .forEach(name -> there.add(name.replace(".java", "")));
        }
        due.holds("the tests told are those there are: " + told, told.equals(new TreeSet<>(there)));
    }
}
