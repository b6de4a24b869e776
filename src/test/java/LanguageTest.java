import java.nio.file.Files;
import java.nio.file.Path;
import java.util.regex.Matcher;
import java.util.regex.Pattern;

/** Those rules of ../shared/LANGUAGE.md that can be seen in the words of the source. */
public final class LanguageTest {
    private static final String[] NEVER = {
        "\\b(throw|throws|try|catch|finally|synchronized|assert|volatile|transient|native|package)\\b",
        "->", "::", "\\b(float|double)\\b", "\\bnew\\s+[\\w<>]+\\s*\\([^)]*\\)\\s*\\{", "\\bstatic\\s*\\{",
        "\\.(equals|hashCode|toString|getClass|clone)\\(", "\\w+Exact\\(", "\"",
        "\\b(System|Thread|Random|Object|Runtime|Class)\\b", "\\bextends\\b", "\\bvar\\b",
    };
    private static int wrong = 0;

    public static void main(String[] args) throws Exception {
        String text = Files.readString(Path.of("src/main/java/SafeBlocks.java"));
        for (int i = 0; i < text.length(); i++) {
            check("sign " + (int) text.charAt(i), text.charAt(i) < 128);
        }
        String bare = text.replaceAll("(?s)/\\*.*?\\*/", "").replaceAll("//[^\n]*", "");
        for (String never : NEVER) {
            Matcher found = Pattern.compile(never).matcher(bare);
            check("found " + never, !found.find());
        }
        Matcher imports = Pattern.compile("import ([^;]*);").matcher(bare);
        while (imports.find()) {
            check("import " + imports.group(1), imports.group(1).equals("java.util.Arrays"));
        }
        Matcher calls = Pattern.compile("\\b(Arrays|Math|Integer|Long)\\.(\\w+)").matcher(bare);
        while (calls.find()) {
            check(calls.group(), calls.group().matches("Arrays\\.fill|Math\\.(min|max)|Long\\.bitCount"));
        }
        methodsAreShort(bare);
        System.out.println(wrong == 0 ? "the language is as due" : wrong + " things are not as due");
        if (wrong != 0) {
            System.exit(1);
        }
    }

    private static void methodsAreShort(String bare) {
        String[] lines = bare.split("\n");
        for (int i = 0; i < lines.length; i++) {
            Matcher head = Pattern.compile("^(\\s+)[\\w\\[\\] ]+\\(.*\\) \\{$").matcher(lines[i]);
            if (head.find() && !lines[i].matches("\\s+(if|for|while|switch)\\b.*")) {
                int end = i;
                while (end < lines.length && !lines[end].equals(head.group(1) + "}")) {
                    end++;
                }
                check("a method of " + (end - i + 1) + " lines: " + lines[i].trim(), end - i + 1 <= 60);
                check("parameters: " + lines[i].trim(), lines[i].split(",").length <= 7);
            }
        }
    }

    private static void check(String what, boolean holds) {
        if (!holds) {
            wrong++;
            System.out.println("not as due: " + what);
        }
    }
}
