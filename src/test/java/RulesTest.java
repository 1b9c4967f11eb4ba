import java.io.IOException;
import java.nio.charset.StandardCharsets;
import java.nio.file.Files;
import java.nio.file.Path;
import java.util.Map;
import java.util.Set;
import java.util.TreeMap;
import java.util.TreeSet;
import java.util.regex.Matcher;
import java.util.regex.Pattern;

/** Rules of LANGUAGE.md that can be seen in the program's text. Run in the project's root, as .ci/run does. */
public final class RulesTest {
    private static final String[] FORBIDDEN = {
        "\\b(throw|throws|try|catch|finally|synchronized|assert|native|volatile|transient|protected)\\b",
        "->", "::", "@", "\\bpackage\\b", "\\bSystem\\.(?!arraycopy\\b)\\w+", "\\bArrays\\.(?!fill\\b|copyOf\\b|copyOfRange\\b)\\w+",
        "\\bMath\\.(?!min\\b|max\\b|abs\\b|floorDiv\\b|floorMod\\b)\\w+", "\\w+Exact\\b", "\\bstatic\\s*\\{",
        "\\bRandom\\b", "\\bThread\\b", "\\bObject\\b", "\\.(equals|hashCode|toString|getClass)\\b",
        "\\bimport (?!java\\.util\\.Arrays;)", "while \\(true\\)", "for \\(;;\\)"};

    public static void main(String[] args) throws IOException {
        String source = Files.readString(Path.of("src/main/java/ShadowAlms.java"), StandardCharsets.ISO_8859_1);
        String code = source.replaceAll("(?s)/\\*.*?\\*/", "").replaceAll("//[^\n]*", "");
        for (String rule : FORBIDDEN) {
            Matcher found = Pattern.compile(rule).matcher(code);
            Due.is("'" + rule + "' in the program", found.find() ? 1 : 0, 0);
        }
        for (int i = 0; i < source.length(); i++) {
            if (source.charAt(i) > 126) {
                Due.is("a sign beyond 126 at " + i, source.charAt(i), 126);
            }
        }
        Due.is("Arrays.fill over booleans", Pattern.compile("Arrays\\.fill\\([^)]*(true|false)\\)").matcher(code).find() ? 1 : 0, 0);
        lengthsOfMethods(source);
        depthOfCalls(code);
        Due.end();
    }

    /** Methods of one name count as one, so a chain is rather told too long than too short; a call of itself is recursion. */
    private static void depthOfCalls(String code) {
        Map<String, Set<String>> calls = new TreeMap<>();
        String name = "";
        for (String line : code.split("\n")) {
            Matcher head = Pattern.compile("^(?: {4}| {8})(?! )[\\w\\[\\] ]*?(\\w+)\\(.*\\) \\{$").matcher(line);
            if (head.find() && !head.group(1).matches("if|for|while|switch")) {
                name = head.group(1);
                calls.putIfAbsent(name, new TreeSet<>());
            } else if (!name.isEmpty()) {
                Matcher call = Pattern.compile("(?<!Arrays\\.)\\b(\\w+)\\(").matcher(line);
                while (call.find()) {
                    calls.get(name).add(call.group(1));
                }
            }
        }
        Due.is("the methods are seen", calls.containsKey("drift") && calls.get("cast").contains("castShades") ? 1 : 0, 1);
        for (String first : calls.keySet()) {
            Due.is("eight calls deep at most: " + first, Math.max(8, depthFrom(first, calls, 0)), 8);
        }
    }

    private static int depthFrom(String name, Map<String, Set<String>> calls, int above) {
        int deepest = above + 1;
        for (String called : calls.get(name)) {
            if (calls.containsKey(called) && !called.equals(name) && above < 50) {
                deepest = Math.max(deepest, depthFrom(called, calls, above + 1));
            }
        }
        return deepest;
    }

    /** A method begins at a line that ends with ') {' in a class's depth, and ends with a brace in the same column. */
    private static void lengthsOfMethods(String source) {
        String[] lines = source.split("\n");
        for (int i = 0; i < lines.length; i++) {
            Matcher head = Pattern.compile("^( {4}| {8})(?! )[\\w\\[\\] ]+\\((.*)\\) \\{$").matcher(lines[i]);
            if (head.find() && !lines[i].trim().startsWith("if") && !lines[i].trim().startsWith("for")
                && !lines[i].trim().startsWith("while") && !lines[i].trim().startsWith("switch")) {
                int end = i;
                while (!lines[end].equals(head.group(1) + "}")) {
                    end++;
                }
                Due.is("sixty lines at most: " + lines[i].trim(), Math.max(60, end - i + 1), 60);
                int parameters = head.group(2).isEmpty() ? 0 : head.group(2).split(",").length;
                Due.is("seven parameters at most: " + lines[i].trim(), Math.max(7, parameters), 7);
            }
        }
    }
}
