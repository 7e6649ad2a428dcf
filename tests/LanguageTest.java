import java.io.IOException;
import java.nio.file.Files;
import java.nio.file.Paths;
import java.util.List;
import java.util.regex.Matcher;
import java.util.regex.Pattern;

/** Looks at the program's text for what LANGUAGE.md rules out and words can show. */
public final class LanguageTest {
    private static int wrong = 0;

    private static final String[] RULED_OUT = {
        "\\bimport\\b", "\\bpackage\\b", "->", "::", "\\btry\\b", "\\bcatch\\b", "\\bfinally\\b", "\\bassert\\b",
        "\\bsynchronized\\b", "\\bprotected\\b", "\\bSystem\\.(?!arraycopy)", "\\bMath\\.\\w*Exact",
        "\\bRandom\\b", "\\bThread\\b", "\\bObject\\b", "\\bvar\\b", "\\bstatic\\s*\\{", "\\bwhile \\(true\\)",
        "\\bfor \\(;;\\)", "\"\\s*\\+", "\\+\\s*\"", "\\b(equals|hashCode|toString)\\("};

    private static final String[] PUBLIC_NAMES = Script.NAMES;

    public static void main(String[] args) throws IOException {
        Watch.begin("LanguageTest");
        List<String> lines = Files.readAllLines(Paths.get("src/main/java/NumberPlace.java"));
        int classes = 0;
        int start = -1;
        for (int k = 0; k < lines.size(); k++) {
            String line = lines.get(k);
            String code = line.replaceAll("^\\s*(/\\*\\*|\\*|//).*", "");
            for (String pattern : RULED_OUT) {
                if (Pattern.compile(pattern).matcher(code).find()) {
                    say(k, "has " + pattern);
                }
            }
            for (int c = 0; c < line.length(); c++) {
                if (line.charAt(c) > 126 || line.charAt(c) < 32) {
                    say(k, "has a sign that is not plain");
                }
            }
            classes += code.matches(".*\\bclass \\w+ \\{") ? 1 : 0;
            if (code.matches(" {4}(?: {4})?(?! ).*\\) (throws [\\w, ]+)?\\{")) {
                start = k;
                privateName(k, code);
            }
            if (start >= 0 && code.matches(" {4}(?: {4})?\\}")) {
                if (k - start > 60) {
                    say(start, "begins a method of " + (k - start) + " lines");
                }
                start = -1;
            }
        }
        if (classes < 2 || classes > 12) {
            say(0, "is followed by " + classes + " classes");
        }
        System.out.println(lines.size() + " lines looked at, " + wrong + " wrong");
        if (wrong != 0) {
            System.exit(1);
        }
    }

    private static void privateName(int k, String code) {
        Matcher m = Pattern.compile("(\\w+)\\(").matcher(code);
        if (m.find() && !code.contains("public")) {
            for (String name : PUBLIC_NAMES) {
                if (name.equals(m.group(1))) {
                    say(k, "gives a public name to a method that is not public");
                }
            }
        }
    }

    private static void say(int line, String what) {
        wrong++;
        System.out.println("line " + (line + 1) + " " + what);
    }
}
