import java.io.IOException;
import java.lang.reflect.Field;
import java.lang.reflect.Method;
import java.nio.file.Files;
import java.nio.file.Path;
import java.util.Arrays;
import java.util.List;
import java.util.Set;
import java.util.TreeSet;
import java.util.regex.Matcher;
import java.util.regex.Pattern;

// What README.md tells is so: its example answers as it says there, its tables name every call and code.
public final class ReadmeTest {
    private static final Pattern EXAMPLE_CALL = Pattern.compile("r\\.(\\w+)\\(([-0-9, ]*)\\); +// (.*)");
    private static final Pattern CALL_ROW = Pattern.compile("\\| `(\\w+)\\(([a-z, ]*)\\)` \\|.*");
    private static final Pattern CODE_ROW = Pattern.compile("\\| `([A-Z_]+)` \\| (-?\\d+) \\|.*");

    private static int wrong = 0;

    private static void due(String what, Object got, Object want) {
        if (!got.equals(want)) {
            wrong++;
            System.out.println(what + " is " + got + ", due is " + want);
        }
    }

    public static void main(String[] args) throws IOException, ReflectiveOperationException {
        List<String> lines = Files.readAllLines(Path.of("README.md"));
        example(lines);
        due("the table of calls", callsTold(lines), callsOfTheClass());
        due("the table of codes", codesTold(lines), codesOfTheClass());
        due("that the limit of 512 calls is told", String.join("\n", lines).contains("512 calls"), true);
        System.out.println(wrong == 0 ? "README.md is as due" : wrong + " things are not as due");
        if (wrong != 0) {
            System.exit(1);
        }
    }

    private static void example(List<String> lines) throws ReflectiveOperationException {
        int from = lines.indexOf("```java") + 1;
        int to = from + lines.subList(from, lines.size()).indexOf("```");
        due("the example's first line", lines.get(from), "RaceRecorder r = new RaceRecorder();");
        RaceRecorder r = new RaceRecorder();
        for (String line : lines.subList(from + 1, to)) {
            Matcher call = EXAMPLE_CALL.matcher(line);
            due("that '" + line + "' is a call with its answer", call.matches(), true);
            if (call.matches()) {
                exampleCall(r, line, call.group(1), numbers(call.group(2)), call.group(3));
            }
        }
    }

    private static void exampleCall(RaceRecorder r, String line, String name, Object[] numbers, String comment)
            throws ReflectiveOperationException {
        Class<?>[] types = new Class<?>[numbers.length];
        Arrays.fill(types, int.class);
        Method method = RaceRecorder.class.getMethod(name, types);
        Object answer = method.invoke(r, numbers);
        if (method.getReturnType() != void.class) {
            due("the answer of '" + line + "'", answer.toString(), number(comment.split(":")[0]));
        }
    }

    private static Object[] numbers(String list) {
        return list.isEmpty() ? new Object[0] : List.of(list.split(", ")).stream().map(Integer::valueOf).toArray();
    }

    private static String number(String answer) throws ReflectiveOperationException {
        boolean isCode = answer.matches("[A-Z_]+");
        return isCode ? RaceRecorder.class.getField(answer).get(null).toString() : answer;
    }

    private static Set<String> callsTold(List<String> lines) {
        Set<String> all = new TreeSet<>();
        for (String line : lines) {
            Matcher row = CALL_ROW.matcher(line);
            if (row.matches()) {
                int count = row.group(2).isEmpty() ? 0 : row.group(2).split(", ").length;
                all.add(row.group(1) + " of " + count);
            }
        }
        return all;
    }

    private static Set<String> callsOfTheClass() {
        Set<String> all = new TreeSet<>();
        for (Method method : RaceRecorder.class.getMethods()) {
            if (method.getDeclaringClass() == RaceRecorder.class) {
                all.add(method.getName() + " of " + method.getParameterCount());
            }
        }
        return all;
    }

    private static Set<String> codesTold(List<String> lines) {
        Set<String> all = new TreeSet<>();
        for (String line : lines) {
            Matcher row = CODE_ROW.matcher(line);
            if (row.matches()) {
                all.add(row.group(1) + " = " + row.group(2));
            }
        }
        return all;
    }

    private static Set<String> codesOfTheClass() throws ReflectiveOperationException {
        Set<String> all = new TreeSet<>();
        for (Field field : RaceRecorder.class.getFields()) {
            all.add(field.getName() + " = " + field.get(null));
        }
        return all;
    }
}
