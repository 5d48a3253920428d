import java.io.IOException;
import java.lang.reflect.Method;
import java.nio.file.Files;
import java.nio.file.Path;
import java.util.List;
import java.util.Set;
import java.util.TreeSet;
import java.util.regex.Matcher;
import java.util.regex.Pattern;

/** README.md: its example is a run of calls with the answers that are due, and it tells every call and every constant. */
public final class ReadmeTest {
    private static final List<String> CALLS = List.of(
            "int stop(int node)", "int start(int node)", "int move(int node, int group)", "int member(int node, boolean flag)",
            "int isUp(int node)", "int isMember(int node)", "int leader()",
            "int submit(int code, int number, int a, int b)", "int submitAndStop(int code, int number, int a, int b)",
            "int pending()", "int get(int key)", "int canGet(int key)", "int local(int node, int key)",
            "int lastNumber(int node, int session)", "int answer(int node, int session)", "int same(int node, int other)",
            "void compact()", "int faults()");
    private static final List<String> CONSTANTS = List.of("BAD", "NO_QUORUM", "OLD", "LAST", "SPLIT", "NONE");
    private static final Pattern EXAMPLE = Pattern.compile("```java\n(.*?)```", Pattern.DOTALL);
    private static final Pattern CALL = Pattern.compile("store\\.(\\w+)\\((.*)\\); +// ([-\\w]+).*");
    private static final Due due = new Due("ReadmeTest");

    public static void main(String[] args) throws IOException, ReflectiveOperationException {
        // .ci/run starts every test in the project's directory.
        String text = Files.readString(Path.of("README.md"));
        theExample(text);
        everyCallIsTold(text);
        everyTestIsTold(text);
        due.end();
    }

    private static void theExample(String text) throws ReflectiveOperationException {
        Matcher example = EXAMPLE.matcher(text);
        due.holds("there is an example", example.find());
        ElectedStore store = new ElectedStore();
        Set<String> made = new TreeSet<>();
        String[] lines = example.group(1).split("\n");
        due.alike("its first line", lines[0], "ElectedStore store = new ElectedStore();");
        for (int i = 1; i < lines.length; i++) {
            Matcher call = CALL.matcher(lines[i]);
            due.holds("a call with its answer: " + lines[i], call.matches());
            made.add(call.group(1));
            Object got = make(store, call.group(1), call.group(2));
            if (got == null) {
                due.alike(lines[i], call.group(3), "no");
            } else {
                due.is(lines[i], (int) got, number(call.group(3)));
            }
        }
        due.is("methods that the example calls", made.size(), CALLS.size());
    }

    private static Object make(ElectedStore store, String name, String list) throws ReflectiveOperationException {
        String[] words = list.isEmpty() ? new String[0] : list.split(", ");
        for (Method method : ElectedStore.class.getMethods()) {
            if (method.getName().equals(name) && method.getParameterCount() == words.length) {
                Object[] values = new Object[words.length];
                for (int i = 0; i < words.length; i++) {
                    boolean flag = method.getParameterTypes()[i] == boolean.class;
                    values[i] = flag ? (Object) Boolean.valueOf(words[i]) : (Object) Integer.valueOf(words[i]);
                }
                return method.invoke(store, values);
            }
        }
        throw new NoSuchMethodException(name);
    }

    private static int number(String word) throws ReflectiveOperationException {
        return CONSTANTS.contains(word) ? ElectedStore.class.getField(word).getInt(null) : Integer.parseInt(word);
    }

    private static void everyCallIsTold(String text) throws ReflectiveOperationException {
        for (String call : CALLS) {
            due.holds("a row for " + call, text.contains("\n| `" + call + "` | "));
        }
        for (String name : CONSTANTS) {
            due.holds("a row for " + name, text.contains("\n| `" + name + "` | " + number(name) + " | "));
        }
    }

    private static void everyTestIsTold(String text) throws IOException {
        try (var files = Files.list(Path.of("src/test/java"))) {
            for (Path file : files.toList()) {
                String name = file.getFileName().toString().replace(".java", "");
                due.holds(name + " is told", text.contains("`" + name + "`"));
            }
        }
    }
}
