import java.nio.file.Files;
import java.nio.file.Path;
import java.util.regex.Matcher;
import java.util.regex.Pattern;

/** Those rules of LANGUAGE.md that a look at the text can judge. It runs where .ci/run runs it: in the project's root. */
public final class LanguageTest {
    private static final String[] FORBIDDEN = {
        "\\b(throw|throws|try|catch|synchronized|assert|package|transient|volatile|native)\\b", "->", "::", "\\w+Exact\\b",
        "\\b(equals|hashCode|toString|getClass)\\b", "\\bnull\\b", "\\bstatic\\s*\\{",
        "\\b(Integer|Long)\\.M", "\\b(Random|Thread|Runtime|Object|Math\\.random|System\\.(?!arraycopy)\\w+)\\b", "\\bnew\\s+\\w+(<.*>)?\\([^)]*\\)\\s*\\{"
    };

    public static void main(String[] args) throws Exception {
        Due due = new Due("LanguageTest");
        String text = Files.readString(Path.of("src/main/java/DotObjects.java"));
        String code = text.replaceAll("(?s)/\\*.*?\\*/", "").replaceAll("//[^\n]*", "");
        for (String pattern : FORBIDDEN) {
            Matcher found = Pattern.compile(pattern).matcher(code);
            due.isTrue("no " + pattern + " in the code", !found.find());
        }
        for (char c : text.toCharArray()) if (c > 126 || c < 32 && c != '\n') due.isTrue("plain signs alone, not " + (int) c, false);
        checkImports(due, code);
        checkMethods(due, code);
        due.close();
    }

    private static void checkImports(Due due, String code) {
        Matcher imports = Pattern.compile("import\\s+([^;]+);").matcher(code);
        while (imports.find()) due.isTrue("import of " + imports.group(1), imports.group(1).equals("java.util.Arrays"));
    }

    /** A method's head ends its line with an opening brace, its end is a brace as far in as its head. */
    private static void checkMethods(Due due, String code) {
        String[] lines = code.split("\n");
        int methods = 0;
        for (int i = 0; i < lines.length; i++) {
            Matcher head = Pattern.compile("^( {4}| {8})(?:\\w+ )*[\\w\\[\\]]+ ?\\w*\\(([^)]*)\\) \\{$").matcher(lines[i]);
            if (!head.find() || lines[i].matches(" *(if|for|while|switch).*")) continue;
            methods++;
            int end = i;
            while (end < lines.length && !lines[end].equals(head.group(1) + "}")) end++;
            due.isTrue(lines[i].trim() + " is short", end - i <= 60);
            due.isTrue(lines[i].trim() + " has at most seven parameters", head.group(2).split(",").length <= 7);
        }
        due.isTrue("methods were found", methods > 60);
    }
}
