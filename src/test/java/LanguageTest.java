import java.io.IOException;
import java.nio.file.Files;
import java.nio.file.Path;
import java.util.LinkedHashMap;
import java.util.List;
import java.util.Map;
import java.util.Set;
import java.util.TreeSet;
import java.util.regex.Matcher;
import java.util.regex.Pattern;

/** Those rules of LANGUAGE.md that the program's text shows; what the compiled class shows is in FaceTest. */
public final class LanguageTest {
    private static final List<String> WORDS = List.of(
            "package", "import", "float", "double", "String", "Math", "Integer", "System", "Arrays", "Object", "null",
            "interface", "enum", "record", "throw", "throws", "try", "catch", "finally", "synchronized", "assert", "instanceof",
            "equals", "hashCode", "toString", "getClass", "clone", "length", "var", "this", "super", "protected");
    private static final Set<String> NO_CALLS = Set.of("if", "for", "while", "switch", "return");
    private static final Pattern METHOD = Pattern.compile("\n    (?:public|private) (?:\\w+ )?(\\w+)\\([^)]*\\) \\{\n(.*?)\n    \\}", Pattern.DOTALL);
    private static final Pattern CALL = Pattern.compile("\\b(\\w+)\\(");
    private static final Due due = new Due("LanguageTest");

    public static void main(String[] args) throws IOException {
        // .ci/run starts every test in the project's directory.
        String text = Files.readString(Path.of("src/main/java/ElectedStore.java")).replaceAll("//[^\n]*", "");
        due.holds("no other kind of remark or text, which would hide what is looked for", !text.matches("(?s).*(/\\*|\"|').*"));
        wordsAndSigns(text);
        Map<String, String> methods = methods(text);
        arraysAreMadeAtTheStart(text, methods);
        callsStayFlat(methods);
        methodsStayShort(methods);
        loopsEnd(text);
        due.end();
    }

    private static void wordsAndSigns(String text) {
        for (String word : WORDS) {
            due.holds("rules 1 to 6 leave no '" + word + "'", !Pattern.compile("\\b" + word + "\\b").matcher(text).find());
        }
        for (String sign : List.of("->", "::", "@", "static {", "[][]", "{}")) {
            due.holds("rules 1 to 6 leave no '" + sign + "'", !text.contains(sign));
        }
        due.is("rule 1: classes", count(text, "\\bclass\\b"), 1);
    }

    private static Map<String, String> methods(String text) {
        Map<String, String> methods = new LinkedHashMap<>();
        Matcher method = METHOD.matcher(text);
        while (method.find()) {
            due.holds("rule 1: " + method.group(1) + " names one method", methods.put(method.group(1), method.group(2)) == null);
        }
        // Every line that opens a method, and no other, ends so at this depth.
        due.is("methods found", methods.size(), count(text, "\n    [^ \n][^\n]*\\) \\{\n"));
        return methods;
    }

    private static void arraysAreMadeAtTheStart(String text, Map<String, String> methods) {
        int made = count(text, "\n    private final \\w+\\[\\] \\w+ = new \\w+\\[[A-Z_]+\\];");
        due.is("rule 4: arrays made elsewhere than in a field's initialiser", count(text, "\\bnew\\b") - made, 0);
        for (Map.Entry<String, String> method : methods.entrySet()) {
            due.holds("rule 4: " + method.getKey() + " names no array of its own", !method.getValue().contains("[] "));
        }
    }

    private static void callsStayFlat(Map<String, String> methods) {
        Map<String, Set<String>> called = new LinkedHashMap<>();
        for (Map.Entry<String, String> method : methods.entrySet()) {
            Set<String> names = new TreeSet<>();
            Matcher call = CALL.matcher(method.getValue());
            while (call.find()) {
                if (!NO_CALLS.contains(call.group(1))) {
                    names.add(call.group(1));
                    due.holds("rule 3: " + call.group(1) + " is the program's own", methods.containsKey(call.group(1)));
                    due.holds("rule 10: no call in the arguments of " + call.group(1) + " in " + method.getKey(),
                            !CALL.matcher(arguments(method.getValue(), call.end())).find());
                }
            }
            called.put(method.getKey(), names);
        }
        for (String name : methods.keySet()) {
            due.holds("rules 8 and 10: calls from " + name + " go at most six deep, so there is no recursion", depth(name, called, 1) <= 6);
        }
    }

    private static String arguments(String body, int from) {
        int open = 1;
        int at = from;
        while (open > 0) {
            open += body.charAt(at) == '(' ? 1 : body.charAt(at) == ')' ? -1 : 0;
            at++;
        }
        return body.substring(from, at - 1);
    }

    private static int depth(String name, Map<String, Set<String>> called, int above) {
        int deepest = above;
        for (String next : above > 6 ? Set.<String>of() : called.getOrDefault(name, Set.of())) {
            deepest = Math.max(deepest, depth(next, called, above + 1));
        }
        return deepest;
    }

    private static void methodsStayShort(Map<String, String> methods) {
        for (Map.Entry<String, String> method : methods.entrySet()) {
            due.holds("rule 10: " + method.getKey() + " stays short", count(method.getValue(), "\n") < 60);
        }
    }

    private static void loopsEnd(String text) {
        // The program needs no other loop than a counter that goes up to a constant.
        int counted = count(text, "\\bfor \\(int (\\w+) = 0; \\1 < [A-Z_]+; \\1\\+\\+\\)");
        due.is("rule 8: loops of another kind", count(text, "\\b(for|while|do)\\b") - counted, 0);
    }

    private static int count(String text, String pattern) {
        return (int) Pattern.compile(pattern).matcher(text).results().count();
    }
}
