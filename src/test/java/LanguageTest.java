import java.io.IOException;
import java.nio.file.Files;
import java.nio.file.Path;
import java.util.HashMap;
import java.util.HashSet;
import java.util.Map;
import java.util.Set;
import java.util.regex.Matcher;
import java.util.regex.Pattern;

/** The rules of LANGUAGE.md that can be read off the text of the class. Run from the project's folder. */
public final class LanguageTest {
    private static final String[] RULED_OUT = {
        "\\b(throw|throws|try|catch|synchronized|assert|package|native|volatile|transient)\\b",
        "->", "::", "\\bnew\\s+\\w+(<\\w*>)?\\([^)]*\\)\\s*\\{", "Exact\\b", "\\b(NaN|Random|Thread|Object|Class)\\b",
        "\\b(toString|hashCode|equals)\\b", "System\\.(?!arraycopy)", "\\bimport\\s+(?!java\\.util\\.Arrays;)",
        "Arrays\\.(?!fill|copyOf|copyOfRange|\\*)\\w", "\"", "\\bstatic\\s*\\{", "[^\\x00-\\x7f]"};

    public static void main(String[] args) throws IOException {
        Due due = new Due();
        String source = Files.readString(Path.of("src/main/java/CandleIsADebt.java"));
        String code = source.replaceAll("(?s)/\\*.*?\\*/", "").replaceAll("//.*", "");
        for (String rule : RULED_OUT) {
            Matcher found = Pattern.compile(rule).matcher(code);
            due.is("uses of " + rule, found.results().count(), 0);
        }
        due.is("static fields not final", count(code, "(?m)^\\s*(private |public )?static (?!final)[\\w\\[\\]]+ \\w+( =|;)"), 0);
        due.is("inner classes not static", count(code, "(?m)^\\s+(private )?(final |abstract )*class "), 0);
        due.is("classes, some twelve at most", count(code, "\\b(class|interface|enum|record) \\w+") <= 12 ? 1 : 0, 1);
        due.is("methods of more than 60 lines", longMethods(source), 0);
        // Rule 9, told more narrowly than it is: each loop counts a number of its own, by ones, up to a bound.
        due.is("loops", count(code, "\\bfor \\(|\\bwhile\\b|\\bdo\\b"), count(code, "\\bfor \\(int (\\w+) = [^;]+; \\1 <=? [^;]+; \\1\\+\\+\\)"));
        due.is("takings, seven at most", count(code, "\\w+\\((?:\\w+ \\w+, ){7}\\w+ \\w+\\)"), 0);
        Map<String, Set<String>> calls = calls(code);
        due.is("methods that call are found", calls.size() > 70 ? 1 : 0, 1);
        int deepest = 0;
        for (String method : calls.keySet()) deepest = Math.max(deepest, depth(calls, method, 1));
        due.is("calls deep, eight at most and none of itself: " + deepest, deepest <= 8 ? 1 : 0, 1);
        due.end();
    }

    private static long count(String code, String pattern) {
        return Pattern.compile(pattern).matcher(code).results().count();
    }

    /** By method: what it calls, of the class or of the library. */
    private static Map<String, Set<String>> calls(String code) {
        Map<String, Set<String>> calls = new HashMap<>();
        Matcher heads = Pattern.compile("(?m)^( +)(?!if|for|switch|return|\\})[\\w\\[\\] ]*?(\\w+)\\([\\w\\[\\] ,]*\\) \\{$").matcher(code);
        while (heads.find()) {
            String body = code.substring(heads.end(), code.indexOf("\n" + heads.group(1) + "}", heads.end()));
            Set<String> called = calls.computeIfAbsent(heads.group(2), name -> new HashSet<>());
            Matcher names = Pattern.compile("(\\w+)\\(").matcher(body);
            while (names.find()) if (!names.group(1).matches("if|for|switch|return")) called.add(names.group(1));
        }
        return calls;
    }

    /** How many calls stand open at once from a method on; far too many if one calls itself. */
    private static int depth(Map<String, Set<String>> calls, String method, int open) {
        int deepest = open;
        if (open > 30 || !calls.containsKey(method)) return deepest;
        for (String called : calls.get(method)) deepest = Math.max(deepest, depth(calls, called, open + 1));
        return deepest;
    }

    /** A method ends with the first brace that stands as far in as its own head. */
    private static int longMethods(String source) {
        int found = 0;
        String[] lines = source.split("\n");
        for (int i = 0; i < lines.length; i++) {
            if (!lines[i].matches("\\s+[^=;]*\\w\\([^;]*\\) \\{") || lines[i].matches("\\s+(if|for|while|switch|\\}).*")) continue;
            String margin = lines[i].substring(0, lines[i].length() - lines[i].stripLeading().length());
            int end = i;
            while (end < lines.length && !lines[end].equals(margin + "}")) end++;
            if (end - i > 60) found++;
        }
        return found;
    }
}
