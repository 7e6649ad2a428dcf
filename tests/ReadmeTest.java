import java.io.IOException;
import java.lang.reflect.Method;
import java.lang.reflect.Modifier;
import java.nio.file.Files;
import java.nio.file.Path;
import java.nio.file.Paths;
import java.util.ArrayList;
import java.util.List;
import java.util.regex.Matcher;
import java.util.regex.Pattern;

/** What README.md shows must be so: its programs, answers, tables, and the files that it names. */
public final class ReadmeTest {
    private static final Pattern PROGRAM = Pattern.compile("public class (\\w+)");
    private static final Pattern ANSWERED = Pattern.compile("(desk\\.\\w+\\(.*\\)); +// ([^:]*)(:.*)?");
    private static final Pattern CALL = Pattern.compile("`(\\w+)\\((.*)\\)`");
    private static final Pattern TEXT = Pattern.compile("`(;[^`]*)`");

    private static final Check check = new Check();

    public static void main(String[] args) throws IOException {
        Watch.begin("ReadmeTest");
        Readme readme = new Readme(Paths.get("README.md"));
        if (Compiled.isPossible()) {
            runBlocks(readme.blocks());
        } else {
            System.out.println("no compiler in this Java: the programs of the README are not run");
        }
        compareCalls(readme.rows());
        compareTexts(readme.rows());
        nameEveryTest(readme.rows());
        findFiles(readme.quoted());
        check.end();
    }

    private static void runBlocks(List<Readme.Block> blocks) throws IOException {
        int answers = 0;
        for (int k = 0; k < blocks.size(); k++) {
            Readme.Block block = blocks.get(k);
            if (block.language.equals("java")) {
                Matcher program = PROGRAM.matcher(block.text());
                if (program.find()) {
                    check.same(program.group(1) + " prints", Compiled.printed(program.group(1), block.text()),
                            blocks.get(k + 1).text());
                } else {
                    answers += runCalls("Block" + k, block.lines);
                }
            }
        }
        check.due("answers that the README shows", answers >= 50, true);
    }

    /** Runs lines of calls; the answer that is due stands behind a call, as a comment. */
    private static int runCalls(String name, List<String> lines) throws IOException {
        List<String> due = new ArrayList<>();
        StringBuilder b = new StringBuilder("public class ").append(name).append(" {\n")
                .append("static void tell(java.util.concurrent.Callable<Object> call) {\n")
                .append("try { System.out.println(call.call()); }\n")
                .append("catch (Exception e) { System.out.println(\"throws \" + e.getClass().getSimpleName()); }\n}\n")
                .append("public static void main(String[] args) {\n");
        for (String line : lines) {
            Matcher answered = ANSWERED.matcher(line);
            if (answered.matches()) {
                b.append("tell(() -> ").append(answered.group(1)).append(");\n");
                due.add(answered.group(2).trim());
            } else {
                check.due("a comment without a call: " + line, line.contains("//"), false);
                b.append(line).append('\n');
            }
        }
        String[] got = Compiled.printed(name, b.append("}\n}\n").toString()).split("\n");
        check.due(name + " answers", got.length, due.size());
        for (int k = 0; k < Math.min(got.length, due.size()); k++) {
            check.same(name + ", answer " + k, got[k], due.get(k));
        }
        return due.size();
    }

    /** The table of calls: every method, its parameters, what it throws, saves and empties. */
    private static void compareCalls(List<String[]> rows) throws IOException {
        Path path = Paths.get("../shared/DOC.md");
        List<String> signatures = Files.exists(path) ? new Document(path).signatures() : null;
        List<String> left = new ArrayList<>(List.of(Script.NAMES));
        for (String[] row : rows) {
            Matcher call = CALL.matcher(row[0]);
            if (call.matches() && row.length == 4) {
                String name = call.group(1);
                check.due(name + " is a call, and shown once", left.remove(name), true);
                check.same(name + " throws", row[2], thrownBy(name));
                if (!name.equals("undo")) {
                    check.same(name + " saves and empties", row[3], markOf(name));
                }
                if (signatures != null) {
                    check.due(name + " takes " + call.group(2), takes(signatures, name, call.group(2)), true);
                }
            }
        }
        check.same("calls that are not shown", left.toString(), "[]");
    }

    private static String thrownBy(String name) {
        List<String> types = new ArrayList<>();
        for (Method method : NumberPlace.class.getDeclaredMethods()) {
            if (method.getName().equals(name) && Modifier.isPublic(method.getModifiers())) {
                for (Class<?> type : method.getExceptionTypes()) {
                    types.add(type.getSimpleName().replaceAll("^(Illegal)?([A-Z][a-z]+).*", "$2"));
                }
            }
        }
        return String.join(", ", types);
    }

    private static boolean takes(List<String> signatures, String name, String parameters) {
        for (String signature : signatures) {
            String plain = signature.replaceAll("\\bint (\\w+)(?=[,)])", "$1");
            if (plain.contains(" " + name + "(" + parameters + ")")) {
                return true;
            }
        }
        return false;
    }

    /** U if a state is saved by a call, L if it empties the log. */
    private static String markOf(String name) {
        NumberPlace x = new NumberPlace();
        Check.write(x, Desks.DOTS);
        x.give(0, 1);
        x.addConstraint(0, 7, 5);
        x.deduce(1);
        Object[] call = argumentsOf(name);
        long answer = Script.program(x, name, (int) call[0], (int) call[1], (int) call[2]);
        check.due(name + " is refused", answer <= Script.INDEX && answer >= Script.STATE, false);
        boolean emptied = x.logged() == 0;
        boolean saved = x.undo() == 3;
        return (saved ? "U" : "") + (saved && emptied ? " " : "") + (emptied ? "L" : "");
    }

    private static Object[] argumentsOf(String name) {
        switch (name) {
            case "addConstraint":
                return new Object[] {2, 8, 0};
            case "extend":
                return new Object[] {0, 9, 0};
            case "give":
            case "strike":
            case "possible":
                return new Object[] {8, 5, 0};
            case "append":
            case "make":
                return new Object[] {(int) '.', 36, 0};
            case "step":
            case "constraint":
            case "cellOf":
                return new Object[] {0, 0, 0};
            default:
                return new Object[] {1, 1, 0};
        }
    }

    /** The table of texts: what parse() answers for each of them behind 36 dots. */
    private static void compareTexts(List<String[]> rows) {
        int texts = 0;
        for (String[] row : rows) {
            Matcher text = TEXT.matcher(row[0]);
            if (text.matches()) {
                NumberPlace x = new NumberPlace();
                Check.write(x, Desks.DOTS + text.group(1));
                check.same("parse of " + text.group(1), "" + x.parse(), row[1]);
                texts++;
            }
        }
        check.due("texts that the README shows", texts >= 10, true);
    }

    private static void nameEveryTest(List<String[]> rows) {
        List<String> shown = new ArrayList<>();
        for (String[] row : rows) {
            shown.add(row[0]);
        }
        for (java.io.File file : Paths.get("tests").toFile().listFiles()) {
            if (file.getName().endsWith("Test.java")) {
                String name = file.getName().replace(".java", "");
                check.due(name + " is in the table of tests", shown.contains(name), true);
            }
        }
    }

    private static void findFiles(List<String> quoted) {
        for (String name : quoted) {
            if (name.matches("(src|tests)/[\\w/.]+|\\.ci/\\w+")) {
                check.due(name + " is there", Files.exists(Paths.get(name)), true);
            }
        }
    }
}
