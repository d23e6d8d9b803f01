import java.io.IOException;
import java.lang.reflect.Method;
import java.lang.reflect.Modifier;
import java.nio.file.Files;
import java.nio.file.Path;
import java.util.List;
import java.util.TreeSet;
import java.util.regex.Matcher;
import java.util.regex.Pattern;
import java.util.stream.Stream;

/** What README.md says of calls, their answers and the tests is so; run from the project's folder. */
final class ReadmeTest {
    private static final Pattern CALL = Pattern.compile("map\\.(\\w+)\\(([^)]*)\\);\\s*// (-?\\w+).*");
    private static final Pattern TOLD_CALL = Pattern.compile("`(\\w+)\\([^)]*\\)`");
    private static final Pattern TEST = Pattern.compile("`(\\w+Test)`");

    public static void main(String[] args) throws ReflectiveOperationException, IOException {
        List<String> lines = Files.readAllLines(Path.of("README.md"));
        example(lines);
        table(lines);
        tests(lines);
        Checks.end();
    }

    private static TreeSet<String> face() {
        TreeSet<String> names = new TreeSet<>();
        for (Method method : RadixPages.class.getDeclaredMethods()) {
            if (Modifier.isPublic(method.getModifiers())) {
                names.add(method.getName());
            }
        }
        return names;
    }

    private static void example(List<String> lines) throws ReflectiveOperationException {
        RadixPages map = new RadixPages();
        TreeSet<String> called = new TreeSet<>();
        for (String line : lines) {
            Matcher call = CALL.matcher(line);
            if (line.startsWith("map.") && !call.matches()) {
                Checks.due("a line of the example without an answer", line, "");
            } else if (line.startsWith("map.")) {
                Checks.due(line, answer(map, call.group(1), call.group(2)), number(call.group(3)));
                called.add(call.group(1));
            }
        }
        TreeSet<String> uncalled = face();
        uncalled.removeAll(called);
        Checks.due("what the example does not call", uncalled.toString(), "[]");
    }

    private static long answer(RadixPages map, String name, String row) throws ReflectiveOperationException {
        String[] words = row.isEmpty() ? new String[0] : row.split(", ");
        for (Method method : RadixPages.class.getDeclaredMethods()) {
            if (method.getName().equals(name) && method.getParameterCount() == words.length) {
                Object[] values = new Object[words.length];
                for (int i = 0; i < words.length; i++) {
                    long value = number(words[i]);
                    values[i] = method.getParameterTypes()[i] == long.class ? (Object) value : (Object) (int) value;
                }
                return ((Number) method.invoke(map, values)).longValue();
            }
        }
        throw new NoSuchMethodException(name);
    }

    private static long number(String word) throws ReflectiveOperationException {
        if (Character.isUpperCase(word.charAt(0))) {
            return ((Number) RadixPages.class.getField(word).get(null)).longValue();
        }
        return Long.decode(word.replace("L", ""));
    }

    private static void table(List<String> lines) {
        TreeSet<String> told = new TreeSet<>();
        for (String line : lines) {
            Matcher call = TOLD_CALL.matcher(line);
            while (line.startsWith("|") && call.find()) {
                told.add(call.group(1));
            }
        }
        Checks.due("the calls of the table", told.toString(), face().toString());
    }

    private static void tests(List<String> lines) throws IOException {
        TreeSet<String> told = new TreeSet<>();
        Matcher test = TEST.matcher(String.join("\n", lines));
        while (test.find()) {
            told.add(test.group(1));
        }
        TreeSet<String> there = new TreeSet<>();
        try (Stream<Path> files = Files.list(Path.of("src/test/java"))) {
            files.map(file -> file.getFileName().toString().replace(".java", ""))
                .filter(name -> name.endsWith("Test")).forEach(there::add);
        }
        Checks.due("the tests that are named", told.toString(), there.toString());
    }
}
