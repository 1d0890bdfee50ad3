import java.io.IOException;
import java.nio.file.Files;
import java.nio.file.Path;
import java.util.ArrayList;
import java.util.HashMap;
import java.util.HashSet;
import java.util.List;
import java.util.Map;
import java.util.Set;
import java.util.TreeMap;
import java.util.regex.Matcher;
import java.util.regex.Pattern;

/**
 * Rules 8, 11 and 12 of ../shared/LANGUAGE.md, by the source: no call comes back to itself, calls go eight deep at most, and
 * what is made is made by constructors. A call of another object is taken for one of each class that has a method of that
 * name, but for one's own if another has it.
 */
public final class CallsTest {
    private static final Due DUE = new Due("CallsTest");
    private static final Path SOURCE = Path.of("src/main/java/HammockNet.java");
    private static final Pattern HEAD = Pattern.compile("( {4}| {8})(?:[\\w\\[\\]]+ )*(\\w+)\\(.*\\).* ?\\{");
    private static final Pattern CLASS = Pattern.compile(".*\\b(?:class|enum) (\\w+) \\{");
    private static final Pattern CALL = Pattern.compile("(\\.?)\\b(\\w+)\\(");
    private static final int DEEPEST = 8;

    /** By Class.method, the calls in it: .name of another object, name of one's own. */
    private static final Map<String, Set<String>> CALLS = new TreeMap<>();
    private static final Map<String, Integer> DEPTHS = new HashMap<>();

    private CallsTest() {
    }

    public static void main(String[] args) throws IOException {
        List<String> lines = new ArrayList<>();
        for (String line : Files.readAllLines(SOURCE)) {
            lines.add(line.replaceAll("//.*|/\\*.*|^ +\\* .*", "").replaceAll("\"[^\"]*\"", "\"\""));
        }
        String inside = "";
        for (int i = 0; i < lines.size(); i++) {
            Matcher type = CLASS.matcher(lines.get(i));
            Matcher head = HEAD.matcher(lines.get(i));
            if (type.matches()) {
                inside = type.group(1);
            } else if (head.matches()) {
                readMethod(lines, i, head.group(1), inside + "." + head.group(2));
            }
        }
        DUE.is("methods were found", CALLS.size() > 120, true);
        for (String method : CALLS.keySet()) {
            int depth = depthOf(method, new HashSet<>());
            DUE.is(method + " goes " + depth + " deep", depth <= DEEPEST, true);
        }
        DUE.end();
    }

    private static void readMethod(List<String> lines, int head, String indent, String name) {
        Set<String> calls = CALLS.computeIfAbsent(name, each -> new HashSet<>());
        boolean constructs = Character.isUpperCase(name.charAt(name.indexOf('.') + 1));
        for (int i = head + 1; i < lines.size() && !lines.get(i).equals(indent + "}"); i++) {
            Matcher call = CALL.matcher(lines.get(i));
            while (call.find()) {
                calls.add(call.group(1) + call.group(2));
            }
            boolean makes = lines.get(i).replace("throw new", "").matches(".*\\bnew\\b.*");
            DUE.is("line " + (i + 1) + " makes something", makes && !constructs, false);
        }
    }

    private static List<String> calledBy(String method, String call) {
        String own = method.substring(0, method.indexOf('.') + 1) + call.replace(".", "");
        List<String> called = new ArrayList<>();
        for (String each : CALLS.keySet()) {
            if (call.startsWith(".") && each.endsWith(call) && !each.equals(own)) {
                called.add(each);
            }
        }
        if (called.isEmpty()) {
            called.add(own);
        }
        return called;
    }

    /** How many methods of the program's own stand open at once, from this one on. */
    private static int depthOf(String method, Set<String> open) {
        if (!CALLS.containsKey(method)) {
            return 0;
        }
        if (DEPTHS.containsKey(method)) {
            return DEPTHS.get(method);
        }
        DUE.is(method + " comes back to itself", open.contains(method), false);
        if (!open.add(method)) {
            return 0;
        }
        int deepest = 0;
        for (String call : CALLS.get(method)) {
            for (String called : calledBy(method, call)) {
                deepest = Math.max(deepest, depthOf(called, open));
            }
        }
        open.remove(method);
        DEPTHS.put(method, deepest + 1);
        return deepest + 1;
    }
}
