import java.io.IOException;
import java.lang.reflect.InvocationTargetException;
import java.lang.reflect.Method;
import java.nio.file.Files;
import java.nio.file.Path;
import java.util.ArrayList;
import java.util.HashMap;
import java.util.List;
import java.util.Map;
import java.util.Set;
import java.util.TreeSet;
import java.util.regex.Matcher;
import java.util.regex.Pattern;

/**
 * README.md stays true: each run of calls that it shows is made, and each answer is the one that it shows; the calls
 * and the names that it tells of are there. It is run from the project's folder.
 */
public final class ReadmeTest {
    private static final Due DUE = new Due("README.md");
    private static final Pattern RUN = Pattern.compile("(?ms)^```java\n(.*?)^```$");
    private static final Pattern BEGIN = Pattern.compile("SampleTracker (\\w+) = new SampleTracker\\((-?\\d+)\\);");
    private static final Pattern CALL = Pattern.compile(
        "(?:(int|long) (\\w+) = )?(\\w+)\\.(\\w+)\\(([^()]*)\\); +// (-?\\d+)(?:: .+)?");

    private final Set<String> called = new TreeSet<>();
    private final Set<Long> answers = new TreeSet<>();
    private final Map<String, Long> numbers = new HashMap<>();
    private SampleTracker tracker = null;
    private String name = "";

    public static void main(String[] args) throws IOException {
        String text = Files.readString(Path.of("README.md"));
        new ReadmeTest().runs(text);
        callsAreTold(text);
        namesAreThere(text);
        DUE.end();
    }

    private void runs(String text) {
        Matcher run = RUN.matcher(text);
        while (run.find()) {
            tracker = null;
            numbers.clear();
            for (String line : run.group(1).split("\n")) {
                line(line);
            }
        }
        for (Method method : face()) {
            DUE.holds("a run shows " + method.getName(), called.contains(method.getName()));
        }
        for (long refusal : new long[] {-1, -2, -3, -4, -6, -7}) {
            DUE.holds("a run shows " + refusal, answers.contains(refusal));
        }
    }

    /** A line that is neither a new object nor a call with its answer is wrong: nothing else can be held to be true. */
    private void line(String line) {
        Matcher begin = BEGIN.matcher(line);
        Matcher call = CALL.matcher(line);
        if (begin.matches()) {
            name = begin.group(1);
            tracker = new SampleTracker(Integer.parseInt(begin.group(2)));
        } else if (tracker != null && call.matches() && call.group(3).equals(name)) {
            call(line, call);
        } else {
            DUE.holds("a new object, or a call and its answer: " + line, false);
        }
    }

    private void call(String line, Matcher call) {
        Method method = methodOf(call.group(4));
        Object[] arguments = method == null ? null : arguments(method, call.group(5));
        if (arguments == null) {
            DUE.holds("a call of the class: " + line, false);
            return;
        }
        long want = Long.parseLong(call.group(6));
        long got = answer(method, arguments);
        DUE.is(line, got, want);
        called.add(method.getName());
        answers.add(want);
        if (call.group(1) != null) {
            DUE.holds("its type: " + line, method.getReturnType().getName().equals(call.group(1)));
            numbers.put(call.group(2), got);
        }
    }

    private static List<Method> face() {
        List<Method> face = new ArrayList<>();
        for (Method method : SampleTracker.class.getMethods()) {
            if (method.getDeclaringClass() == SampleTracker.class) {
                face.add(method);
            }
        }
        return face;
    }

    private static Method methodOf(String called) {
        for (Method method : face()) {
            if (method.getName().equals(called)) {
                return method;
            }
        }
        return null;
    }

    /** Null if they are not those that the method takes. */
    private Object[] arguments(Method method, String told) {
        String[] words = told.isEmpty() ? new String[0] : told.split(", ");
        Class<?>[] types = method.getParameterTypes();
        if (words.length != types.length) {
            return null;
        }
        Object[] arguments = new Object[words.length];
        for (int i = 0; i < words.length; i++) {
            boolean number = words[i].matches("-?\\d{1,9}");
            if (!number && !numbers.containsKey(words[i])) {
                return null;
            }
            long value = number ? Long.parseLong(words[i]) : numbers.get(words[i]);
            if (types[i] == int.class) {
                arguments[i] = (int) value;
            } else {
                arguments[i] = value;
            }
        }
        return arguments;
    }

    private long answer(Method method, Object[] arguments) {
        try {
            return ((Number) method.invoke(tracker, arguments)).longValue();
        } catch (IllegalAccessException | InvocationTargetException e) {
            throw new IllegalStateException(e);
        }
    }

    private static void callsAreTold(String text) {
        DUE.holds("the constructor is told", text.contains("`SampleTracker(int bytes)`"));
        for (Method method : face()) {
            List<String> parameters = new ArrayList<>();
            for (Class<?> type : method.getParameterTypes()) {
                parameters.add(type + " \\w+");
            }
            String row = "`" + method.getReturnType() + " " + method.getName()
                + "\\(" + String.join(", ", parameters) + "\\)`";
            DUE.holds("told: " + method, Pattern.compile(row).matcher(text).find());
        }
    }

    /** Each test, each of its helpers and each class inside is named, and each test that is named is there. */
    private static void namesAreThere(String text) throws IOException {
        for (Class<?> inside : SampleTracker.class.getDeclaredClasses()) {
            DUE.holds("named: " + inside, text.contains("`" + inside.getSimpleName() + "`"));
        }
        Set<String> files = new TreeSet<>();
        try (var folder = Files.newDirectoryStream(Path.of("src/test/java"), "*.java")) {
            for (Path file : folder) {
                files.add(file.getFileName().toString().replace(".java", ""));
            }
        }
        for (String file : files) {
            DUE.holds("named: " + file, text.contains("`" + file + "`"));
        }
        Matcher named = Pattern.compile("\\b[A-Z]\\w*Test\\b").matcher(text);
        while (named.find()) {
            DUE.holds("there: " + named.group(), files.contains(named.group()));
        }
        DUE.holds("there: .ci/run", text.contains("    .ci/run\n") && Files.isExecutable(Path.of(".ci/run")));
    }
}
