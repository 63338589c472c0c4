import java.io.IOException;
import java.nio.file.Files;
import java.nio.file.Path;
import java.util.regex.Matcher;
import java.util.regex.Pattern;

/** The rules of LANGUAGE.md that can be read off the text of the class. Run from the project's folder. */
public final class LanguageTest {
    private static final String[] RULED_OUT = {
        "\\b(throw|throws|try|catch|synchronized|assert|package|native|volatile|transient)\\b",
        "->", "::", "\\bnew\\s+\\w+(<\\w*>)?\\([^)]*\\)\\s*\\{", "Exact\\b", "\\b(NaN|Random|Thread|Object|Class)\\b",
        "\\b(toString|hashCode|equals)\\b", "System\\.(?!arraycopy)", "\\bimport\\s+(?!java\\.util\\.Arrays;)",
        "Arrays\\.(?!fill|copyOf|copyOfRange|\\*)\\w", "\"", "\\bstatic\\s*\\{", "[^\\x00-\\x7f]"};

    public static void main(String[] args) throws IOException {
        Due due = new Due();
        String source = Files.readString(Path.of("src/main/java/CandleIsADebt.java"));
        String code = source.replaceAll("(?s)/\\*.*?\\*/", "").replaceAll("//.*", "");
        for (String rule : RULED_OUT) {
            Matcher found = Pattern.compile(rule).matcher(code);
            due.is("uses of " + rule, found.results().count(), 0);
        }
        due.is("static fields not final", count(code, "(?m)^\\s*(private |public )?static (?!final)[\\w\\[\\]]+ \\w+( =|;)"), 0);
        due.is("inner classes not static", count(code, "(?m)^\\s+(private )?(final |abstract )*class "), 0);
        due.is("classes, some twelve at most", count(code, "\\b(class|interface|enum|record) \\w+") <= 12 ? 1 : 0, 1);
        due.is("methods of more than 60 lines", longMethods(source), 0);
        due.end();
    }

    private static long count(String code, String pattern) {
        return Pattern.compile(pattern).matcher(code).results().count();
    }

    /** A method ends with the first brace that stands as far in as its own head. */
    private static int longMethods(String source) {
        int found = 0;
        String[] lines = source.split("\n");
        for (int i = 0; i < lines.length; i++) {
            if (!lines[i].matches("\\s+[^=;]*\\w\\([^;]*\\) \\{") || lines[i].matches("\\s+(if|for|while|switch|\\}).*")) continue;
            String margin = lines[i].substring(0, lines[i].length() - lines[i].stripLeading().length());
            int end = i;
            while (end < lines.length && !lines[end].equals(margin + "}")) end++;
            if (end - i > 60) found++;
        }
        return found;
    }
}
