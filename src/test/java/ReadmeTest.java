import java.lang.reflect.Method;
import java.nio.charset.StandardCharsets;
import java.nio.file.Files;
import java.nio.file.Path;
import java.util.Arrays;
import java.util.List;
import java.util.Set;
import java.util.TreeSet;
import java.util.regex.Matcher;
import java.util.regex.Pattern;

/** README.md says what is so: each line of its examples has the answer that stands beside it, and its table has every call. */
public final class ReadmeTest extends Checks {
    static final Pattern CALL = Pattern.compile("bank\\.(\\w+)\\(([-\\d, ]*)\\); +// (-?\\d+): .*");
    static final Pattern TYPED = Pattern.compile("for \\(char c : \"([^\"]*)\"\\.toCharArray\\(\\)\\) bank\\.type\\(c\\);");
    static final Pattern ROW = Pattern.compile("\\| `(\\w+)\\(([\\w, ]*)\\)` \\| (.*) \\|(.*)\\|");

    static Method method(String name) {
        for (Method m : BackLoans.class.getMethods()) if (m.getName().equals(name)) return m;
        throw new IllegalArgumentException("README.md names " + name);
    }

    static long call(String name, Object... numbers) throws ReflectiveOperationException {
        return ((Number) method(name).invoke(x, numbers)).longValue();
    }

    static void exampleLine(String line) throws ReflectiveOperationException {
        Matcher call = CALL.matcher(line), typed = TYPED.matcher(line);
        if (line.equals("BackLoans bank = new BackLoans();")) {
            fresh();
        } else if (typed.matches()) {
            for (char c : typed.group(1).toCharArray()) x.type(c);
        } else if (call.matches()) {
            String[] numbers = call.group(2).isEmpty() ? new String[0] : call.group(2).split(", ");
            Object[] given = Arrays.stream(numbers).map(Integer::valueOf).toArray();
            due(line, call(call.group(1), given), Long.parseLong(call.group(3)));
        } else {
            due("a line that is none: " + line, 1, 0);
        }
    }

    static void examples(List<String> lines) throws ReflectiveOperationException {
        boolean within = false;
        int seen = 0;
        for (String line : lines) {
            if (line.startsWith("```")) {
                within = line.equals("```java");
            } else if (within) {
                exampleLine(line);
                seen++;
            }
        }
        due("there are examples", seen > 20 ? 1 : 0, 1);
    }

    /** With numbers that no call takes, just those calls are refused of which the table says so. */
    static void row(String name, int numbers, String refused) throws ReflectiveOperationException {
        due("how many numbers " + name + " takes", method(name).getParameterCount(), numbers);
        fresh();
        Object[] wrongOnes = new Object[numbers];
        Arrays.fill(wrongOnes, Integer.MIN_VALUE);
        Matcher other = Pattern.compile("BAD, with the answer (-\\d+)").matcher(refused);
        long answer = other.matches() ? Long.parseLong(other.group(1)) : BAD;
        long got = call(name, wrongOnes);
        boolean bad = refused.startsWith("BAD");
        if (bad) due(name + " refused as BAD", got, answer);
        due(name + " counts as BAD", x.status(0), bad ? 1 : 0);
        due(name + " takes numbers, so it can be BAD", bad ? 1 : 0, numbers > 0 ? 1 : 0);
    }

    static void table(List<String> lines) throws ReflectiveOperationException {
        Set<String> told = new TreeSet<>(), face = new TreeSet<>();
        for (String line : lines) {
            Matcher m = ROW.matcher(line);
            if (!m.matches()) continue;
            due(m.group(1) + " stands once", told.add(m.group(1)) ? 1 : 0, 1);
            row(m.group(1), m.group(2).isEmpty() ? 0 : m.group(2).split(", ").length, m.group(4).trim());
        }
        for (Method m : BackLoans.class.getMethods()) if (m.getDeclaringClass() == BackLoans.class) face.add(m.getName());
        due("the table has every call of " + face + ": " + told, told.equals(face) ? 1 : 0, 1);
    }

    /** Every file that the page names is there, and every test of the project is named. */
    static void files(String page) throws java.io.IOException {
        for (String dir : new String[] {"src/test/java", "src/test/support"}) {
            try (var files = Files.list(Path.of(dir))) {
                for (Path file : files.toList()) {
                    String name = file.getFileName().toString().replace(".java", "");
                    due(file + " is named", page.contains(name) ? 1 : 0, 1);
                }
            }
        }
        Matcher m = Pattern.compile("`(?:src/test/java/)?(\\w+Test)\\.java`").matcher(page);
        while (m.find()) due(m.group() + " is there", Files.exists(Path.of("src/test/java", m.group(1) + ".java")) ? 1 : 0, 1);
    }

    public static void main(String[] args) throws Exception {
        Path page = Path.of("README.md");
        List<String> lines = Files.readAllLines(page, StandardCharsets.UTF_8);
        examples(lines);
        table(lines);
        files(Files.readString(page, StandardCharsets.UTF_8));
        end("README.md says what is so");
    }
}
