import java.io.IOException;
import java.nio.file.Files;
import java.nio.file.Path;
import java.util.ArrayList;
import java.util.LinkedHashMap;
import java.util.List;
import java.util.Map;
import java.util.regex.Matcher;
import java.util.regex.Pattern;

/**
 * The document, cut at its beginning ("What it is"), at the heads of its description ("Undo") and at
 * its promises ("Promise 3"), with a mark at each sign that a test has quoted.
 */
final class Document {
    private static final Pattern HEAD = Pattern.compile("([A-Z][a-z]+(?: text)?)\\. .*");
    private static final Pattern PART = Pattern.compile("## (Promise \\d+(?=: )|What it is).*");

    private final Map<String, String> texts = new LinkedHashMap<>();
    private final Map<String, boolean[]> quoted = new LinkedHashMap<>();
    private final List<String> signatures = new ArrayList<>();

    Document(Path path) throws IOException {
        String section = null;
        boolean inDescription = false;
        for (String line : Files.readAllLines(path)) {
            if (line.startsWith("#")) {
                inDescription = line.equals("## Description");
                Matcher part = PART.matcher(line);
                section = part.matches() ? part.group(1) : null;
            } else if (line.startsWith("    public ") || line.startsWith("public ")) {
                signatures.add(line.trim());
            } else if (inDescription && line.equals("The constants:")) {
                section = "Constants";
            } else if (inDescription && line.startsWith("The constructor and the methods")) {
                section = null;
            } else if (inDescription && HEAD.matcher(line).matches()) {
                Matcher head = HEAD.matcher(line);
                head.matches();
                section = head.group(1);
                add(section, line.substring(section.length() + 1));
            } else if (section != null && !line.startsWith("`") && !line.startsWith("---- ")) {
                add(section, line);
            }
        }
        for (String name : texts.keySet()) {
            quoted.put(name, new boolean[texts.get(name).length()]);
        }
    }

    private void add(String section, String line) {
        String before = texts.getOrDefault(section, "");
        texts.put(section, (before + " " + line.trim()).trim());
    }

    List<String> signatures() {
        return signatures;
    }

    /** Marks the words wherever they stand in the section; false if they do not. */
    boolean quote(String section, String words) {
        String text = texts.getOrDefault(section, "");
        int at = text.indexOf(words);
        boolean found = at >= 0;
        while (at >= 0) {
            for (int k = at; k < at + words.length(); k++) {
                quoted.get(section)[k] = true;
            }
            at = text.indexOf(words, at + 1);
        }
        return found;
    }

    /** The stretches that no test has quoted. */
    List<String> unquoted() {
        List<String> result = new ArrayList<>();
        for (String section : texts.keySet()) {
            String text = texts.get(section);
            int k = 0;
            while (k < text.length()) {
                int start = k;
                while (k < text.length() && !quoted.get(section)[k]) {
                    k++;
                }
                String words = text.substring(start, k).trim();
                if (words.matches(".*\\w.*")) {
                    result.add(section + ": " + words);
                }
                k++;
            }
        }
        return result;
    }
}
