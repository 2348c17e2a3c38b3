import java.io.IOException;
import java.nio.file.Files;
import java.nio.file.Path;
import java.util.ArrayDeque;
import java.util.ArrayList;
import java.util.Deque;
import java.util.HashMap;
import java.util.HashSet;
import java.util.List;
import java.util.Map;
import java.util.Set;
import java.util.TreeMap;
import java.util.regex.Matcher;
import java.util.regex.Pattern;

/** Rules 8 and 11 of ../shared/LANGUAGE.md: how deep calls go that are no recursion, and which ones are a recursion. */
public final class CallDepthTest {
    private static final Path FILE = Path.of("src/main/java/StrokeHall.java");
    private static final int DEEPEST = 8;
    private static final Pattern CLASS = Pattern.compile("^( *)(?:public |private )(?:static )?final class (\\w+) \\{$");
    private static final Pattern METHOD =
        Pattern.compile("^ +(?:public |private )?(?:static )?(?:[\\w\\[\\]]+ )?(\\w+)\\([^()]*\\) \\{$");
    private static final Pattern CALL = Pattern.compile("(?:(\\w+)\\.|(\\)\\.))?\\b(\\w+)\\(");

    private final Map<String, String> bodies = new TreeMap<>();
    private final Map<String, String> classOf = new HashMap<>();
    private final Map<String, Set<String>> calls = new TreeMap<>();
    private final Map<String, Integer> depths = new HashMap<>();

    public static void main(String[] args) throws IOException {
        Check check = new Check("CallDepthTest");
        String source = Files.readString(FILE).replaceAll("(?s)/\\*.*?\\*/", "").replaceAll("//[^\n]*", "")
            .replaceAll("\"[^\"\n]*\"", "\"\"");
        new CallDepthTest(source).check(check);
        check.finish();
    }

    private CallDepthTest(String source) {
        Deque<String> classes = new ArrayDeque<>();
        Deque<Integer> margins = new ArrayDeque<>();
        String method = "";
        for (String line : source.split("\n")) {
            Matcher c = CLASS.matcher(line);
            Matcher m = METHOD.matcher(line);
            if (c.find()) {
                classes.push(c.group(2));
                margins.push(c.group(1).length());
            } else if (!classes.isEmpty() && line.equals(" ".repeat(margins.peek()) + "}")) {
                classes.pop();
                margins.pop();
            } else if (m.find() && !m.group(1).matches("if|for|while|switch")) {
                method = classes.peek() + "." + m.group(1);
                bodies.put(method, "");
            } else {
                bodies.computeIfPresent(method, (name, body) -> body + "\n" + line);
            }
        }
        for (String method1 : bodies.keySet()) {
            String owner = method1.substring(0, method1.indexOf('.'));
            Matcher named = Pattern.compile("\\b" + owner + " (\\w+)\\b").matcher(source);
            while (named.find()) {
                classOf.put(named.group(1), owner);
            }
            classOf.put(owner, owner);
        }
        bodies.forEach((name, body) -> calls.put(name, called(name, body)));
    }

    private Set<String> called(String from, String body) {
        Set<String> found = new HashSet<>();
        Matcher m = CALL.matcher(body);
        while (m.find()) {
            String name = m.group(3);
            String own = from.substring(0, from.indexOf('.'));
            if (m.group(1) != null) {
                found.add(classOf.get(m.group(1)) + "." + name);
            } else if (m.group(2) != null) {
                bodies.keySet().stream().filter(b -> b.endsWith("." + name)).forEach(found::add);
            } else {
                found.add(bodies.containsKey(own + "." + name) ? own + "." + name : "StrokeHall." + name);
            }
        }
        found.retainAll(bodies.keySet());
        return found;
    }

    private Set<String> reachedFrom(String method) {
        Set<String> reached = new HashSet<>();
        Deque<String> open = new ArrayDeque<>(calls.get(method));
        while (!open.isEmpty()) {
            String one = open.pop();
            if (reached.add(one)) {
                open.addAll(calls.get(one));
            }
        }
        return reached;
    }

    /** Those of a recursion count as none: only what they call beside one another does. */
    private int depth(String method) {
        Integer known = depths.get(method);
        if (known != null) {
            return known;
        }
        Set<String> reached = reachedFrom(method);
        List<String> group = new ArrayList<>(List.of(method));
        if (reached.contains(method)) {
            group.clear();
            reached.stream().filter(one -> reachedFrom(one).contains(method)).forEach(group::add);
        }
        int below = 0;
        for (String one : group) {
            for (String next : calls.get(one)) {
                below = Math.max(below, group.contains(next) ? 0 : depth(next));
            }
        }
        int depth = below + (reached.contains(method) ? 0 : 1);
        depths.put(method, depth);
        return depth;
    }

    private void check(Check check) {
        check.due("methods were found", bodies.size() > 150, true);
        check.due("the calls of ask() were found", calls.get("StrokeHall.ask").contains("Question.read"), true);
        int deepest = 0;
        for (String method : bodies.keySet()) {
            check.due("the depth of " + method + " is " + depth(method), depth(method) <= DEEPEST, true);
            deepest = Math.max(deepest, depth(method));
            boolean recursive = reachedFrom(method).contains(method);
            check.due(method + " is a recursion", recursive, method.matches(
                "Question\\.take(Test|Both|Fact|Sum|Product|Part|Pair)"));
        }
        check.due("the deepest calls were found", deepest > 5, true);
        // Each turn of the recursion goes by an opener, of which six may be open at once, or by one of its own parts.
        for (String part : new String[] {"Fact", "Part"}) {
            check.due("take" + part + " looks at the depth", calls.get("Question.take" + part).contains("Question.deeper"),
                true);
        }
        check.due("an opening looks at the depth", calls.get("Question.takeOpening").contains("Question.deeper"), true);
    }
}
