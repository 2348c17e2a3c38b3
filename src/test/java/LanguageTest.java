import java.io.IOException;
import java.nio.file.Files;
import java.nio.file.Path;
import java.util.ArrayDeque;
import java.util.Deque;
import java.util.Set;
import java.util.regex.Matcher;
import java.util.regex.Pattern;

/** Those rules of ../shared/LANGUAGE.md that can be seen in the words of the program's file. */
public final class LanguageTest {
    private static final Path FILE = Path.of("src/main/java/StrokeHall.java");
    private static final String[] FORBIDDEN = {"throw", "throws", "try", "catch", "synchronized", "assert", "import",
        "package", "default ->", "->", "::", "var ", "Object", "hashCode", "toString", "System.out", "System.nano",
        "System.current", "Random", "Thread", "protected", "abstract", "Exact(", "float", "double", "static {", "@"};
    private static final int MOST_LINES = 60;
    private static final int MOST_CLASSES = 13;
    private static final int MOST_FIELDS = 20;
    private static final int MOST_PARAMETERS = 7;

    public static void main(String[] args) throws IOException {
        Check check = new Check("LanguageTest");
        String source = Files.readString(FILE);
        String code = source.replaceAll("(?s)/\\*.*?\\*/", "").replaceAll("//[^\n]*", "")
            .replaceAll("\"[^\"\n]*\"", "\"\"").replaceAll("'[^'\n]'", "' '");
        for (String word : FORBIDDEN) {
            boolean plain = Character.isLetter(word.charAt(0)) && Character.isLetter(word.charAt(word.length() - 1));
            String pattern = plain ? "\\b" + word + "\\b" : Pattern.quote(word);
            check.due("the file has " + word, Pattern.compile(pattern).matcher(code).find(), false);
        }
        check.due("a text is joined by +", code.contains("\"\" +") || code.contains("+ \"\""), false);
        check.due("characters above 127", source.chars().anyMatch(c -> c > 127), false);
        publicMembers(check, code);
        statics(check, code);
        shapes(check, code);
        madeInConstructors(check, code);
        check.finish();
    }

    private static int count(String code, String pattern) {
        Matcher m = Pattern.compile(pattern).matcher(code);
        int many = 0;
        while (m.find()) {
            many++;
        }
        return many;
    }

    private static void publicMembers(Check check, String code) {
        check.due("public words: a class, two constants, a constructor, 28 methods",
            count(code, "\\bpublic\\b"), 32);
        Set<String> face = Set.of("feed", "end", "text", "fault", "hall", "letter", "person", "guard", "door", "where",
            "does", "count", "whole", "set", "close", "undo", "come", "lot", "seed", "odds", "spark", "daring", "late",
            "post", "ask", "image", "octet", "on");
        for (String line : code.split("\n")) {
            Matcher m = Pattern.compile("^ +(?:private )?(?:static )?(?:[\\w\\[\\]]+) (\\w+)\\(.*\\{$").matcher(line);
            if (m.find() && !line.contains("public")) {
                check.due("the name of " + line.trim(), face.contains(m.group(1)), false);
            }
        }
    }

    private static void statics(Check check, String code) {
        for (String line : code.split("\n")) {
            boolean field = line.contains("static") && line.contains("=") && line.endsWith(";");
            if (field) {
                check.due("final: " + line.trim(), line.contains("static final"), true);
            }
        }
        check.due("classes", count(code, "\\bclass\\b") <= MOST_CLASSES, true);
        check.due("inner classes are static", count(code, "\\bclass\\b") - count(code, "private static final class"), 1);
    }

    /** Methods by their braces: their length, and the fields between them. */
    private static void shapes(Check check, String code) {
        Deque<Integer> fields = new ArrayDeque<>();
        String[] lines = code.split("\n");
        int from = 0;
        for (int k = 0; k < lines.length; k++) {
            String line = lines[k];
            boolean classLine = line.contains(" class ");
            boolean member = line.matches("^(    |        )[a-zA-Z].*") && !line.trim().startsWith("return");
            if (classLine) {
                fields.push(0);
            } else if (member && line.matches(".*\\) \\{$") && !line.matches(".*\\b(if|for|while|switch)\\b.*")) {
                from = k;
                int comma = line.length() - line.replace(",", "").length();
                check.due("parameters: " + line.trim(), comma < MOST_PARAMETERS, true);
            } else if (line.matches("^(    |        )\\}$")) {
                check.due("lines of " + lines[from].trim(), k - from <= MOST_LINES || fields.isEmpty(), true);
                from = k;
            } else if (line.matches("^ +private (final )?[\\w\\[\\]]+ \\w+;$")) {
                fields.push(fields.pop() + 1);
                check.due("fields by " + line.trim(), fields.peek() <= MOST_FIELDS, true);
            }
        }
    }

    /** No call makes an object or a row: all stand in the constructors. */
    private static void madeInConstructors(Check check, String code) {
        for (String line : code.split("\n")) {
            if (line.contains("new ")) {
                boolean kept = line.matches("^ +\\w+ = new (\\w+\\(\\w*\\)|(int|long)\\[[\\w *]+\\]);$");
                check.due("made once: " + line.trim(), kept, true);
            }
        }
    }
}
