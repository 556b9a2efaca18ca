import java.lang.reflect.Method;
import java.nio.charset.StandardCharsets;
import java.nio.file.Files;
import java.nio.file.Path;
import java.util.ArrayList;
import java.util.List;
import java.util.TreeSet;
import java.util.regex.Matcher;
import java.util.regex.Pattern;

/** What README.md shows of the class's use: each call answers what stands behind it, and its tables name the tests. */
public final class ReadmeTest {
    private static final String MADE = "ClothWedding x = new ClothWedding();";
    private static final Pattern CALL = Pattern.compile("x\\.(\\w+)\\(([^)]*)\\); *// ([-\\w]+)(?:: (.*))?");

    private ReadmeTest() {
    }

    public static void main(String[] args) throws Exception {
        String readme = Files.readString(Path.of("README.md"));
        Matcher block = Pattern.compile("(?s)```java\n(.*?)```").matcher(readme);
        int blocks = 0;
        while (block.find()) {
            blocks++;
            run(block.group(1));
        }
        Check.due("README.md shows the class's use", blocks > 0, true);
        tables(readme);
        Check.finish("ReadmeTest");
    }

    private static void run(String block) throws Exception {
        ClothWedding x = null;
        int calls = 0;
        for (String line : block.split("\n")) {
            if (line.equals(MADE)) {
                x = new ClothWedding();
            } else if (!line.isBlank()) {
                Matcher call = CALL.matcher(line);
                boolean told = call.matches() && x != null;
                Check.due("a call with its answer: " + line, told, true);
                if (told) {
                    calls++;
                    answer(x, line, call);
                }
            }
        }
        Check.due("calls are shown", calls > 0, true);
    }

    private static void answer(ClothWedding x, String line, Matcher call) throws Exception {
        List<Integer> numbers = numbers(call.group(2));
        Method method = named(call.group(1), numbers.size());
        Check.due("a call of the face: " + line, method != null, true);
        if (method == null) {
            return;
        }
        Object got = method.invoke(x, numbers.toArray());
        String want = call.group(3).equals("NONE") ? "-1" : call.group(3).equals("NOTHING") ? "-1000000000000000" : call.group(3);
        Check.due(line + " (answered " + got + ")", got.toString().equals(want), true);
        if (method.getName().equals("feed") && call.group(4) != null) {
            Check.due("the text that is fed: " + line, quoted(numbers).startsWith(call.group(4).replace("\"", "")), true);
        }
    }

    private static List<Integer> numbers(String told) {
        List<Integer> numbers = new ArrayList<>();
        for (String one : told.split(", ?")) {
            if (!one.isEmpty()) {
                numbers.add(one.equals("NONE") ? ClothWedding.NONE : (int) (long) Long.decode(one));
            }
        }
        return numbers;
    }

    private static Method named(String name, int parameters) {
        for (Method m : ClothWedding.class.getMethods()) {
            if (m.getDeclaringClass() == ClothWedding.class && m.getName().equals(name) && m.getParameterCount() == parameters) {
                return m;
            }
        }
        return null;
    }

    private static String quoted(List<Integer> numbers) {
        byte[] bytes = new byte[4 * numbers.size()];
        for (int i = 0; i < bytes.length; i++) {
            bytes[i] = (byte) (numbers.get(i / 4) >>> (24 - 8 * (i % 4)));
        }
        return new String(bytes, StandardCharsets.ISO_8859_1);
    }

    private static void tables(String readme) throws Exception {
        TreeSet<String> told = new TreeSet<>();
        Matcher row = Pattern.compile("(?m)^\\| `(\\w+Test)` \\|").matcher(readme);
        while (row.find()) {
            Check.due("told once: " + row.group(1), told.add(row.group(1)), true);
        }
        TreeSet<String> there = new TreeSet<>();
        try (var files = Files.list(Path.of("src/test/java"))) {
            files.map(f -> f.getFileName().toString()).filter(f -> f.endsWith("Test.java"))
                .forEach(f -> there.add(f.substring(0, f.length() - 5)));
        }
        Check.due("tests told " + told + ", there are " + there, told.equals(there), true);
    }
}
