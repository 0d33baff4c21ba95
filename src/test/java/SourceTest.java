import java.io.IOException;
import java.nio.file.Files;
import java.nio.file.Path;
import java.util.ArrayList;
import java.util.List;
import java.util.Map;
import java.util.Set;
import java.util.TreeMap;
import java.util.TreeSet;
import java.util.regex.Matcher;
import java.util.regex.Pattern;

/** What can be looked up of the rules of LANGUAGE.md in the text of the class. */
public final class SourceTest extends CallTest {
    private static final Path SOURCE = Path.of("src/main/java/JoinedLeaves.java");
    private static final int MOST_LINES = 60;
    private static final int DEEPEST = 8;
    private static final Pattern RULED_OUT = Pattern.compile("->|::"
            + "|\\b(try|catch|finally|synchronized|assert|import|package|protected|System|Thread|Runtime|Object"
            + "|toString|hashCode|equals|getClass|float|double)\\b");
    private static final Pattern THROWN = Pattern.compile("throw (?!new (IllegalStateException"
            + "|IllegalArgumentException|IndexOutOfBoundsException|UnsupportedOperationException)"
            + "\\((\"[^\"]*\")?\\);)");
    private static final Pattern ENDLESS = Pattern.compile("\\b(while|do)\\b|for \\(;|; ?;");
    /** A method or constructor, up to the brace that stands below its first letter. */
    private static final Pattern METHOD = Pattern.compile(
            "(?ms)^( +)(?:private|public)(?: static)?(?: [\\w\\[\\]]+)? (\\w+)\\([^)]*\\)[^;{]*\\{\n.*?^\\1\\}");
    private static final Pattern NAME = Pattern.compile("\\b(\\w+)\\(");

    public static void main(String[] args) throws IOException {
        String code = withoutComments(Files.readString(SOURCE));
        due("what is ruled out", new ArrayList<>(), () -> foundIn(code, RULED_OUT));
        due("throws of another form", new ArrayList<>(), () -> foundIn(code, THROWN));
        due("loops without a counter", new ArrayList<>(), () -> foundIn(code, ENDLESS));
        Map<String, String> methods = methodsIn(code);
        due("the methods are found", true, () -> methods.keySet().containsAll(
                Set.of("answer", "findAnswers", "search", "choose", "keepRowsWith", "isIn")));
        methodsStayShort(methods);
        onlyOneMethodCallsItself(methods);
        callsStayShallow(methods);
        end("the rules that can be looked up in the text are kept");
    }

    private static String withoutComments(String source) {
        return source.replaceAll("(?s)/\\*.*?\\*/", "").replaceAll("//[^\n]*", "");
    }

    private static List<String> foundIn(String code, Pattern pattern) {
        List<String> found = new ArrayList<>();
        Matcher matcher = pattern.matcher(code);
        while (matcher.find()) {
            int end = code.indexOf('\n', matcher.start());
            found.add(code.substring(matcher.start(), end));
        }
        return found;
    }

    /** The text of each method by its name; no two bear the same one, so that calls are clear. */
    private static Map<String, String> methodsIn(String code) {
        Map<String, String> methods = new TreeMap<>();
        Matcher method = METHOD.matcher(code);
        while (method.find()) {
            String before = methods.put(method.group(2), method.group());
            due("methods named " + method.group(2) + " before", null, () -> before);
        }
        return methods;
    }

    private static void methodsStayShort(Map<String, String> methods) {
        methods.forEach((name, text) ->
                due("lines of " + name + " are few", true, () -> text.lines().count() <= MOST_LINES));
    }

    private static Set<String> calledBy(String name, Map<String, String> methods) {
        Set<String> called = new TreeSet<>();
        String text = methods.get(name);
        Matcher call = NAME.matcher(text.substring(text.indexOf('{')));
        while (call.find()) {
            if (methods.containsKey(call.group(1))) {
                called.add(call.group(1));
            }
        }
        return called;
    }

    private static void onlyOneMethodCallsItself(Map<String, String> methods) {
        Set<String> recursive = new TreeSet<>();
        for (String name : methods.keySet()) {
            if (calledBy(name, methods).contains(name)) {
                recursive.add(name);
            }
        }
        due("methods that call themselves", Set.of("choose"), () -> recursive);
    }

    private static void callsStayShallow(Map<String, String> methods) {
        for (String name : methods.keySet()) {
            due("calls from " + name + " go deeper", false, () -> goesDeeper(name, DEEPEST, methods));
        }
    }

    /** Whether calls from this method, with it, go deeper than this, recursion left aside. */
    private static boolean goesDeeper(String name, int depth, Map<String, String> methods) {
        if (depth == 0) {
            return true;
        }
        for (String called : calledBy(name, methods)) {
            if (!called.equals(name) && goesDeeper(called, depth - 1, methods)) {
                return true;
            }
        }
        return false;
    }
}
