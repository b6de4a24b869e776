import java.nio.file.Files;
import java.nio.file.Path;
import java.util.Map;
import java.util.TreeMap;
import java.util.regex.Matcher;
import java.util.regex.Pattern;

/** Those rules of ../shared/LANGUAGE.md that can be seen in the words of the source. */
public final class LanguageTest {
    private static final String[] NEVER = {
        "\\b(throw|throws|try|catch|finally|synchronized|assert|volatile|transient|native|package)\\b",
        "->", "::", "\\b(float|double)\\b", "\\bnew\\s+[\\w<>]+\\s*\\([^)]*\\)\\s*\\{", "\\bstatic\\s*\\{",
        "\\.(equals|hashCode|toString|getClass|clone)\\(", "\\w+Exact\\(", "\"",
        "\\b(System|Thread|Random|Object|Runtime|Class)\\b", "\\bextends\\b", "\\bvar\\b",
    };
    private static int wrong = 0;

    public static void main(String[] args) throws Exception {
        String text = Files.readString(Path.of("src/main/java/SafeBlocks.java"));
        for (int i = 0; i < text.length(); i++) {
            check("sign " + (int) text.charAt(i), text.charAt(i) < 128);
        }
        String bare = text.replaceAll("(?s)/\\*.*?\\*/", "").replaceAll("//[^\n]*", "");
        for (String never : NEVER) {
            Matcher found = Pattern.compile(never).matcher(bare);
            check("found " + never, !found.find());
        }
        Matcher imports = Pattern.compile("import ([^;]*);").matcher(bare);
        while (imports.find()) {
            check("import " + imports.group(1), imports.group(1).equals("java.util.Arrays"));
        }
        Matcher calls = Pattern.compile("\\b(Arrays|Math|Integer|Long)\\.(\\w+)").matcher(bare);
        while (calls.find()) {
            check(calls.group(), calls.group().matches("Arrays\\.fill|Math\\.(min|max)|Long\\.bitCount"));
        }
        methodsAreShort(bare);
        loopsAreBounded(bare);
        new Calls(bare).check();
        System.out.println(wrong == 0 ? "the language is as due" : wrong + " things are not as due");
        if (wrong != 0) {
            System.exit(1);
        }
    }

    private static void methodsAreShort(String bare) {
        String[] lines = bare.split("\n");
        for (int i = 0; i < lines.length; i++) {
            Matcher head = Pattern.compile("^(\\s+)[\\w\\[\\] ]+\\(.*\\) \\{$").matcher(lines[i]);
            if (head.find() && !lines[i].matches("\\s+(if|for|while|switch)\\b.*")) {
                int end = i;
                while (end < lines.length && !lines[end].equals(head.group(1) + "}")) {
                    end++;
                }
                check("a method of " + (end - i + 1) + " lines: " + lines[i].trim(), end - i + 1 <= 60);
                check("parameters: " + lines[i].trim(), lines[i].split(",").length <= 7);
            }
        }
    }

    /** Each loop has a bound in its head, and a while a counter in its lines. */
    private static void loopsAreBounded(String bare) {
        check("a do loop", !Pattern.compile("\\bdo \\{").matcher(bare).find());
        Matcher loops = Pattern.compile("\n( *)(for|while) \\((.*)\\) \\{(?=\n)").matcher(bare);
        while (loops.find()) {
            String head = loops.group(3);
            check("a loop without a bound: " + head, head.matches(".*\\w (<|<=|>=) \\w.*"));
            if (loops.group(2).equals("while")) {
                Matcher counter = Pattern.compile("^(\\w+) <").matcher(head);
                int end = bare.indexOf("\n" + loops.group(1) + "}", loops.end());
                check("a while without a counter: " + head, counter.find()
                    && bare.substring(loops.end(), end).contains(counter.group(1) + "++"));
            } else {
                check("a for without a step: " + head, head.matches(".*(\\+\\+|--)"));
            }
        }
    }

    /** Which method calls which: none calls itself by any way, and no way is deeper than eight. */
    private static final class Calls {
        private static final Pattern CLASS = Pattern.compile("^\\s*(?:public|private static) final class (\\w+) \\{$");
        private static final Pattern METHOD = Pattern.compile("^(\\s+)(?:[\\w\\[\\]]+ )*(\\w+)\\(.*\\) \\{$");
        private static final Pattern CALL = Pattern.compile("(\\.)?\\b(\\w+)\\(");
        private static final int DEEPEST = 8;

        private final Map<String, String> bodies = new TreeMap<>();

        Calls(String bare) {
            String[] lines = bare.split("\n");
            String owner = "";
            for (int i = 0; i < lines.length; i++) {
                Matcher begins = CLASS.matcher(lines[i]);
                if (begins.find()) {
                    owner = begins.group(1);
                }
                Matcher head = METHOD.matcher(lines[i]);
                if (head.find() && !head.group(2).matches("if|for|while|switch")) {
                    StringBuilder body = new StringBuilder();
                    for (i++; !lines[i].equals(head.group(1) + "}"); i++) {
                        body.append(lines[i]).append('\n');
                    }
                    bodies.put(owner + "." + head.group(2), body.toString());
                }
            }
        }

        void check() {
            LanguageTest.check("methods are seen", bodies.containsKey("SafeBlocks.look")
                && bodies.containsKey("Web.turn") && bodies.size() > 90);
            for (String method : bodies.keySet()) {
                int deep = deepBelow(method, 0);
                LanguageTest.check(method + " calls " + deep + " deep", deep <= DEEPEST);
            }
        }

        /** How many calls stand open below one; a call that comes round again is far too deep. */
        private int deepBelow(String method, int open) {
            int most = 1;
            Matcher calls = CALL.matcher(bodies.get(method));
            while (calls.find() && open <= DEEPEST) {
                for (String other : bodies.keySet()) {
                    if (other.endsWith("." + calls.group(2)) && reaches(method, other, calls.group(1) != null)) {
                        most = Math.max(most, 1 + deepBelow(other, open + 1));
                    }
                }
            }
            return most;
        }

        /** A call behind a dot is one of another object, and no class here calls its own kind. */
        private static boolean reaches(String caller, String method, boolean ofAnother) {
            String owner = owner(method);
            boolean own = owner.equals(owner(caller));
            if (ofAnother) {
                return !own && !owner.equals("SafeBlocks");
            }
            return own || owner.equals("SafeBlocks") || method.equals(owner + "." + owner);
        }

        private static String owner(String method) {
            return method.substring(0, method.indexOf('.'));
        }
    }

    private static void check(String what, boolean holds) {
        if (!holds) {
            wrong++;
            System.out.println("not as due: " + what);
        }
    }
}
