import java.lang.reflect.InvocationTargetException;
import java.lang.reflect.Method;
import java.lang.reflect.Modifier;
import java.nio.file.DirectoryStream;
import java.nio.file.Files;
import java.nio.file.Path;
import java.util.HashMap;
import java.util.HashSet;
import java.util.List;
import java.util.Map;
import java.util.NoSuchElementException;
import java.util.Set;
import java.util.regex.Matcher;
import java.util.regex.Pattern;

/** Makes the calls that README.md shows, one behind the other: the class has to answer what stands behind each of them. */
public final class ReadmeTest {
    private static final String NEW = "MoreThanHalf x = new MoreThanHalf();";
    private static final Pattern CALL = Pattern.compile("x\\.(\\w+)\\((.*)\\); +// (true|false|-?\\d+|NoSuchElementException)\\b(.*)");
    private static final Pattern QUOTED = Pattern.compile(": \"(.{1,4})\".*");
    private static final List<String> DUE = List.of("sign", "end", "street", "go", "count", "row", "rule");

    private final Checks checks = new Checks("ReadmeTest");
    private final Map<String, Method> face = new HashMap<>();
    private final Set<String> shown = new HashSet<>();
    private MoreThanHalf x;

    public static void main(String[] args) throws Exception {
        List<String> lines = Files.readAllLines(Path.of("README.md"));
        ReadmeTest test = new ReadmeTest();
        test.calls(lines);
        test.tests(String.join("\n", lines));
        test.checks.end();
    }

    private ReadmeTest() {
        for (Method method : MoreThanHalf.class.getDeclaredMethods()) {
            if (Modifier.isPublic(method.getModifiers())) {
                face.put(method.getName(), method);
            }
        }
    }

    private void calls(List<String> lines) throws Exception {
        boolean code = false;
        for (String line : lines) {
            if (line.startsWith("```")) {
                code = line.equals("```java");
            } else if (code && line.equals(NEW)) {
                x = new MoreThanHalf();
            } else if (code) {
                call(line);
            }
        }
        for (String name : DUE) {
            checks.due("README.md shows a call of " + name, shown.contains(name), true);
        }
    }

    private void call(String line) throws Exception {
        Matcher matcher = CALL.matcher(line);
        boolean isCall = x != null && matcher.matches() && face.containsKey(matcher.group(1));
        checks.due("README.md shows a call with its answer: " + line, isCall, true);
        if (!isCall) {
            return;
        }
        String name = matcher.group(1);
        String[] words = matcher.group(2).isEmpty() ? new String[0] : matcher.group(2).split(", ");
        Object[] arguments = new Object[words.length];
        for (int k = 0; k < words.length; k++) {
            arguments[k] = Integer.decode(words[k]);
        }
        shown.add(name);
        String got = answer(face.get(name), arguments);
        checks.due("README.md: " + line + " (answered " + got + ")", got.equals(matcher.group(3)), true);
        Matcher quoted = QUOTED.matcher(matcher.group(4));
        if (name.equals("sign") && quoted.matches()) {
            checks.due("README.md: the signs of " + line, signs((int) arguments[0]).startsWith(quoted.group(1)), true);
        }
    }

    private String answer(Method method, Object[] arguments) throws Exception {
        try {
            return String.valueOf(method.invoke(x, arguments));
        } catch (InvocationTargetException e) {
            return e.getCause() instanceof NoSuchElementException ? "NoSuchElementException" : String.valueOf(e.getCause());
        }
    }

    private static String signs(int v) {
        return "" + (char) (v >>> 24) + (char) (v >>> 16 & 255) + (char) (v >>> 8 & 255) + (char) (v & 255);
    }

    private void tests(String readme) throws Exception {
        try (DirectoryStream<Path> files = Files.newDirectoryStream(Path.of("src/test/java"), "*Test.java")) {
            for (Path file : files) {
                String name = file.getFileName().toString().replace(".java", "");
                checks.due("README.md names " + name, readme.contains(name), true);
            }
        }
        checks.due("README.md says how tests are run", readme.contains("\n    .ci/run\n") && Files.exists(Path.of(".ci/run")), true);
    }
}
