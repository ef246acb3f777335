import java.io.IOException;
import java.lang.reflect.Method;
import java.lang.reflect.Modifier;
import java.nio.file.Files;
import java.nio.file.Path;
import java.util.ArrayList;
import java.util.HashMap;
import java.util.List;
import java.util.Map;
import java.util.TreeMap;
import java.util.TreeSet;
import java.util.regex.Matcher;
import java.util.regex.Pattern;

/**
 * README.md and TESTS.md hold of the class and of the tests as they stand: the example's answers, the
 * table of calls, the commands, the names of tests. It runs in the project's folder, as .ci/run does.
 */
public final class ReadmeTest {
    private static final Due DUE = new Due();
    private static final Path TESTS = Path.of("src/test/java");
    private static final Pattern CALL =
        Pattern.compile("(?:int (\\w+) = )?office\\.(\\w+)\\(([^()]*)\\);"
            + "(?:\\s*// (-?\\d+|NONE|UNKNOWN|true|false): \\S.*)?");
    private static final Pattern BITS =
        Pattern.compile("int (\\w+) = Float\\.floatToIntBits\\(([0-9.]+f)\\);");
    private static final Pattern TESTED = Pattern.compile("([A-Z]\\w*Test)(?:\\.(\\w+))?");

    public static void main(String[] args) throws IOException, InterruptedException {
        String readme = Files.readString(Path.of("README.md"));
        theExampleHolds(readme);
        theTableHasEveryCall(readme);
        theCommandsWork(readme);
        theTableHasEveryTest(readme);
        testsNamedExist(Files.readString(Path.of("TESTS.md")));
        DUE.end();
    }

    private static List<String> blocks(String text, String language) {
        List<String> found = new ArrayList<>();
        Matcher m = Pattern.compile("^```" + language + "\\n(.*?)^```$", Pattern.MULTILINE | Pattern.DOTALL).matcher(text);
        while (m.find()) {
            found.add(m.group(1));
        }
        return found;
    }

    private static void theExampleHolds(String readme) {
        List<String> found = blocks(readme, "java");
        DUE.is("examples", found.size(), 1);
        SoundingSheet office = null;
        Map<String, Integer> named = new HashMap<>();
        TreeSet<String> called = new TreeSet<>();
        int calls = 0;
        for (String line : String.join("", found).split("\n")) {
            Matcher bits = BITS.matcher(line);
            if (line.isEmpty() || line.startsWith("//")) {
                continue;
            }
            if (line.equals("SoundingSheet office = new SoundingSheet();")) {
                office = new SoundingSheet();
            } else if (bits.matches()) {
                DUE.yes("a new name: " + line, named.put(bits.group(1), bitsOf(bits.group(2))) == null);
            } else {
                called.add(exampleCall(office, line, named));
                calls++;
            }
        }
        DUE.yes("calls in the example: " + called, called.equals(face().keySet()));
        DUE.yes("an object is used for at most 512 calls", calls <= 512);
    }

    private static int bitsOf(String number) {
        return Float.floatToIntBits(Float.parseFloat(number));
    }

    private static String exampleCall(SoundingSheet office, String line, Map<String, Integer> named) {
        Matcher m = CALL.matcher(line);
        if (office == null || !m.matches()) {
            DUE.yes("a call: " + line, false);
            return line;
        }
        String name = m.group(2);
        int got = Calls.call(office, name, numbers(m.group(3), named));
        DUE.is("it tells an answer if there is one: " + line, m.group(4) == null ? 1 : 0, name.equals("image") ? 1 : 0);
        if (m.group(4) != null) {
            DUE.is(line, got, answer(line, m.group(4), face().get(name).getReturnType()));
        }
        if (m.group(1) != null) {
            DUE.yes("a new name: " + line, named.put(m.group(1), got) == null);
        }
        return name;
    }

    private static int[] numbers(String list, Map<String, Integer> named) {
        if (list.isEmpty()) {
            return new int[0];
        }
        String[] parts = list.split(", ");
        int[] numbers = new int[parts.length];
        for (int i = 0; i < parts.length; i++) {
            numbers[i] = named.containsKey(parts[i]) ? named.get(parts[i]) : Integer.parseInt(parts[i]);
        }
        return numbers;
    }

    /** A boolean's answer is written as true or false, and counts 1 or 0. */
    private static int answer(String line, String written, Class<?> type) {
        boolean isBoolean = written.equals("true") || written.equals("false");
        DUE.is("an answer of its type: " + line, isBoolean ? 1 : 0, type == boolean.class ? 1 : 0);
        if (isBoolean) {
            return written.equals("true") ? 1 : 0;
        }
        if (written.equals("NONE")) {
            return SoundingSheet.NONE;
        }
        return written.equals("UNKNOWN") ? SoundingSheet.UNKNOWN : Integer.parseInt(written);
    }

    private static Map<String, Method> face() {
        Map<String, Method> face = new TreeMap<>();
        for (Method method : SoundingSheet.class.getDeclaredMethods()) {
            if (Modifier.isPublic(method.getModifiers())) {
                face.put(method.getName(), method);
            }
        }
        return face;
    }

    private static void theTableHasEveryCall(String readme) {
        Matcher m = Pattern.compile("^\\| `(\\w+)\\((.*?)\\)` \\|", Pattern.MULTILINE).matcher(readme);
        TreeSet<String> seen = new TreeSet<>();
        while (m.find()) {
            DUE.yes(m.group(1) + " once", seen.add(m.group(1)));
            Method method = face().get(m.group(1));
            int many = m.group(2).isEmpty() ? 0 : m.group(2).split(", ").length;
            DUE.is(m.group() + " takes", many, method == null ? -1 : method.getParameterCount());
        }
        DUE.yes("calls in the table: " + seen, seen.equals(face().keySet()));
    }

    /** All but .ci/run itself, which runs this test. */
    private static void theCommandsWork(String readme) throws IOException, InterruptedException {
        DUE.yes(".ci/run can be run", Files.isExecutable(Path.of(".ci/run")));
        int tried = 0;
        for (String commands : blocks(readme, "sh")) {
            if (!commands.equals(".ci/run\n")) {
                Process process = new ProcessBuilder("bash", "-ec", commands).redirectErrorStream(true).start();
                String said = new String(process.getInputStream().readAllBytes());
                DUE.is(commands + said, process.waitFor(), 0);
                tried++;
            }
        }
        DUE.is("commands", tried, 2);
    }

    private static void theTableHasEveryTest(String readme) throws IOException {
        TreeSet<String> listed = new TreeSet<>();
        Matcher m = Pattern.compile("^\\| `(\\w+Test)` \\|", Pattern.MULTILINE).matcher(readme);
        while (m.find()) {
            DUE.yes(m.group(1) + " once", listed.add(m.group(1)));
        }
        TreeSet<String> there = new TreeSet<>();
        try (var files = Files.newDirectoryStream(TESTS, "*Test.java")) {
            files.forEach(file -> there.add(file.getFileName().toString().replace(".java", "")));
        }
        DUE.yes("tests in the table: " + listed, listed.equals(there));
    }

    /** A name without a test's name ahead of it belongs to the test that was named last. */
    private static void testsNamedExist(String text) throws IOException {
        for (String row : text.split("\n")) {
            Matcher names = Pattern.compile("`([^`]+)`").matcher(row);
            String test = null;
            while (row.startsWith("|") && names.find()) {
                Matcher m = TESTED.matcher(names.group(1));
                String method = names.group(1);
                if (m.matches()) {
                    test = m.group(1);
                    method = m.group(2);
                }
                DUE.yes(names.group() + " in " + test, test != null && has(test, method));
            }
        }
    }

    private static boolean has(String test, String method) throws IOException {
        Path file = TESTS.resolve(test + ".java");
        if (!Files.exists(file)) {
            return false;
        }
        return method == null || Files.readString(file).contains(" static void " + method + "(");
    }
}
