import java.io.File;
import java.lang.reflect.Method;
import java.nio.file.Files;
import java.nio.file.Path;
import java.util.ArrayList;
import java.util.Arrays;
import java.util.List;
import java.util.Set;
import java.util.TreeSet;
import java.util.regex.Matcher;
import java.util.regex.Pattern;

/**
 * README.md: its example answers as it says, and its tables have each call with the document's arguments and findings.
 * Started in the project's directory, as .ci/run does.
 */
public final class ReadmeTest {
    private static final Pattern CALL = Pattern.compile("feast\\.(\\w+)\\(([^()]*)\\); +// (-?\\d+)(: .+)?");
    private static final Pattern ROW = Pattern.compile("(?m)^\\| `(\\w+)\\(([\\w, ]*)\\)` \\|[^|]+\\|([A-Z, ]*)\\|$");
    private static final Pattern PROMISE = Pattern.compile("(?m)^`int (\\w+)\\(([\\w, ]*)\\)`: (.*)$");
    private static final Pattern FINDING = Pattern.compile("\\b(BEYOND|NONE|STATE|FULL|KIND)[:.]");

    private static int wrong = 0;

    public static void main(String[] args) throws Exception {
        String readme = Files.readString(Path.of("README.md"));
        example(readme);
        tables(readme, Files.readString(Path.of("../shared/DOC.md")));
        tests(readme);
        System.out.println(wrong == 0 ? "README.md is as due" : wrong + " faults of README.md");
        if (wrong != 0) {
            System.exit(1);
        }
    }

    private static void dueThat(boolean holds, String what) {
        if (!holds) {
            wrong++;
            System.out.println("not so: " + what);
        }
    }

    private static void example(String readme) {
        Matcher block = Pattern.compile("(?s)```java\n(.*?)```").matcher(readme);
        dueThat(block.find(), "there is an example");
        List<String> lines = new ArrayList<>(Arrays.asList(block.group(1).split("\n")));
        dueThat(lines.remove(0).equals("LampFeast feast = new LampFeast();"), "the example begins with a new object");
        LampFeast feast = new LampFeast();
        Set<String> used = new TreeSet<>();
        for (String line : lines) {
            Matcher call = CALL.matcher(line);
            if (call.matches()) {
                used.add(call.group(1));
                int got = Run.call(feast, call.group(1), numbers(call.group(2)));
                dueThat(got == Integer.parseInt(call.group(3)), line + " (answered " + got + ")");
            } else {
                dueThat(line.isEmpty() || line.startsWith("// "), "a call with its answer: " + line);
            }
        }
        dueThat(used.equals(face()), "the example has all calls: " + used);
    }

    private static int[] numbers(String arguments) {
        String[] parts = arguments.isEmpty() ? new String[0] : arguments.split(", ");
        int[] numbers = new int[parts.length];
        for (int i = 0; i < parts.length; i++) {
            boolean isBoolean = parts[i].equals("true") || parts[i].equals("false");
            numbers[i] = isBoolean ? (parts[i].equals("true") ? 1 : 0) : Integer.parseInt(parts[i]);
        }
        return numbers;
    }

    private static Set<String> face() {
        Set<String> names = new TreeSet<>();
        for (Method method : LampFeast.class.getMethods()) {
            if (method.getDeclaringClass() == LampFeast.class) {
                names.add(method.getName());
            }
        }
        return names;
    }

    /** A row of README.md and a promise of the document are both told as: call(arguments): findings. */
    private static void tables(String readme, String document) {
        List<String> rows = new ArrayList<>();
        for (Matcher row = ROW.matcher(readme); row.find();) {
            rows.add(row.group(1) + "(" + row.group(2) + "): " + row.group(3).strip());
        }
        List<String> promises = new ArrayList<>();
        for (Matcher promise = PROMISE.matcher(document); promise.find();) {
            String arguments = promise.group(2).replaceAll("\\b(int|boolean) ", "");
            promises.add(promise.group(1) + "(" + arguments + "): " + String.join(", ", findings(promise.group(3))));
        }
        dueThat(promises.size() == face().size(), "each call has a promise: " + promises);
        dueThat(rows.equals(promises), "the tables are as the promises:\n" + rows + "\n" + promises);
    }

    private static List<String> findings(String text) {
        List<String> names = new ArrayList<>();
        for (Matcher finding = FINDING.matcher(text); finding.find();) {
            names.add(finding.group(1));
        }
        return names;
    }

    private static void tests(String readme) {
        Set<String> listed = new TreeSet<>();
        for (Matcher row = Pattern.compile("(?m)^\\| `(\\w+Test)` \\|").matcher(readme); row.find();) {
            listed.add(row.group(1));
        }
        Set<String> there = new TreeSet<>();
        for (String file : new File("src/test/java").list()) {
            if (file.endsWith("Test.java")) {
                there.add(file.replace(".java", ""));
            }
        }
        dueThat(listed.equals(there), "each test is listed: " + listed + " " + there);
    }
}
