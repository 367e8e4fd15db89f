import java.io.IOException;
import java.lang.reflect.Method;
import java.lang.reflect.Modifier;
import java.nio.charset.StandardCharsets;
import java.nio.file.Files;
import java.nio.file.Path;
import java.util.HashMap;
import java.util.List;
import java.util.Map;
import java.util.Set;
import java.util.TreeSet;
import java.util.regex.Matcher;
import java.util.regex.Pattern;
import java.util.stream.Stream;

/** README.md says what is so; .ci/run starts it in the project's root. */
public final class ReadmeTest {
    private static final Map<String, Integer> CONSTANTS =
            Map.of("BAD", RoomsOfHours.BAD, "NO", RoomsOfHours.NO, "FULL", RoomsOfHours.FULL, "NONE", RoomsOfHours.NONE);

    public static void main(String[] args) throws IOException, ReflectiveOperationException {
        String page = Files.readString(Path.of("README.md"), StandardCharsets.US_ASCII);
        Map<String, Method> calls = new HashMap<>();
        for (Method method : RoomsOfHours.class.getDeclaredMethods()) {
            if (Modifier.isPublic(method.getModifiers())) {
                calls.put(method.getName(), method);
            }
        }
        exampleAnswers(page.substring(page.indexOf("```java"), page.lastIndexOf("```")), calls);
        callsAreNamed(page, calls);
        constantsAreNamed(page);
        testsAreNamed(page);
        Due.end();
    }

    private static void exampleAnswers(String example, Map<String, Method> calls) throws ReflectiveOperationException {
        RoomsOfHours x = new RoomsOfHours();
        Pattern text = Pattern.compile("for \\(char c : \"([^\"]*)\"\\.toCharArray\\(\\)\\) x\\.write\\(c\\);");
        Pattern call = Pattern.compile("x\\.(\\w+)\\(([-\\d, ]*)\\); *// (-?\\w+):.*");
        int read = 0;
        for (String line : example.split("\n")) {
            Matcher typed = text.matcher(line);
            Matcher called = call.matcher(line);
            if (typed.matches()) {
                Due.type(x, typed.group(1));
                read++;
            } else if (called.matches()) {
                Object[] numbers = Pattern.compile(", *").splitAsStream(called.group(2)).filter(n -> !n.isEmpty())
                        .map(Integer::valueOf).toArray();
                String due = called.group(3);
                int answer = (int) calls.get(called.group(1)).invoke(x, numbers);
                Due.due("the example's " + line, answer, CONSTANTS.containsKey(due) ? CONSTANTS.get(due) : Integer.parseInt(due));
                read++;
            } else {
                boolean other = line.isEmpty() || line.startsWith("```") || line.startsWith("RoomsOfHours x = new RoomsOfHours();");
                Due.due("the test can read " + line, other ? 1 : 0, 1);
            }
        }
        Due.due("the example has calls", read > 10 ? 1 : 0, 1);
    }

    /** The rows of the table of calls are the face's calls, each with as many arguments. */
    private static void callsAreNamed(String page, Map<String, Method> calls) {
        Set<String> named = new TreeSet<>();
        Matcher row = Pattern.compile("(?m)^\\| `(\\w+)\\(([^)]*)\\)` \\|").matcher(page);
        while (row.find()) {
            String name = row.group(1);
            int arguments = row.group(2).isEmpty() ? 0 : row.group(2).split(",").length;
            Due.due(name + " is a call", calls.containsKey(name) ? 1 : 0, 1);
            Due.due(name + " is named once", named.add(name) ? 1 : 0, 1);
            if (calls.containsKey(name)) {
                Due.due("arguments of " + name, arguments, calls.get(name).getParameterCount());
            }
        }
        for (String name : calls.keySet()) {
            Due.due(name + " is named", named.contains(name) ? 1 : 0, 1);
        }
    }

    private static void constantsAreNamed(String page) {
        for (Map.Entry<String, Integer> constant : CONSTANTS.entrySet()) {
            boolean named = page.contains("| `" + constant.getKey() + "` | " + constant.getValue() + " |");
            Due.due(constant.getKey() + " is named", named ? 1 : 0, 1);
        }
    }

    private static void testsAreNamed(String page) throws IOException {
        Set<String> named = new TreeSet<>();
        Matcher row = Pattern.compile("(?m)^\\| `(\\w+Test)` \\|").matcher(page);
        while (row.find()) {
            named.add(row.group(1));
        }
        List<String> are;
        try (Stream<Path> files = Files.list(Path.of("src/test/java"))) {
            are = files.map(file -> file.getFileName().toString().replace(".java", "")).filter(name -> name.endsWith("Test"))
                    .toList();
        }
        for (String test : are) {
            Due.due(test + " is named", named.contains(test) ? 1 : 0, 1);
        }
        Due.due("tests that are named", named.size(), are.size());
    }
}
