import java.io.IOException;
import java.lang.reflect.InvocationTargetException;
import java.lang.reflect.Method;
import java.nio.file.Files;
import java.nio.file.Path;
import java.nio.file.Paths;
import java.util.ArrayList;
import java.util.Comparator;
import java.util.List;
import java.util.regex.Matcher;
import java.util.regex.Pattern;

/**
 * Runs a test for each sentence of the document. A test is named after the head of the description
 * or the promise that its sentence belongs to, and quotes its words; no word may be left unquoted.
 * With arguments only the tests whose names begin with one of them are run.
 */
public final class SentencesTest {
    private static final Class<?>[] TESTS = {
        WhatItIsSentences.class, GridSentences.class, ConstraintSentences.class, DeductionSentences.class,
        OrderSentences.class, SolvingSentences.class, TextSentences.class, UndoSentences.class,
        PuzzlePromises.class, ReadingPromises.class, DeductionPromises.class, SolvingPromises.class,
        TextPromises.class, StatePromises.class};
    private static final Pattern NAME = Pattern.compile("([a-zA-Z]+)(\\d\\d)?_\\w+");

    private static int run = 0;
    private static int failed = 0;

    public static void main(String[] args) throws IOException {
        Watch.begin("SentencesTest");
        for (Method method : tests()) {
            if (isAsked(method.getName(), args)) {
                runOne(method);
            }
        }
        Path path = Paths.get("../shared/DOC.md");
        if (Files.exists(path)) {
            compareQuotes(new Document(path));
        } else {
            System.out.println("no " + path + ": the quotes are not compared with it");
        }
        System.out.println(run + " sentences looked at, " + failed + " failed");
        if (failed != 0 || run == 0) {
            System.exit(1);
        }
    }

    private static List<Method> tests() {
        List<Method> result = new ArrayList<>();
        for (Class<?> tests : TESTS) {
            for (Method method : tests.getDeclaredMethods()) {
                if (NAME.matcher(method.getName()).matches() && !method.isSynthetic()) {
                    result.add(method);
                }
            }
        }
        result.sort(Comparator.comparing(Method::getName));
        return result;
    }

    private static void compareQuotes(Document document) {
        for (Method method : tests()) {
            Sentence sentence = method.getAnnotation(Sentence.class);
            quote(document, method.getName(), sentence == null ? new String[] {"(nothing)"} : sentence.value());
        }
        for (String words : document.unquoted()) {
            failed++;
            System.out.println("no test quotes: " + words);
        }
    }

    private static boolean isAsked(String name, String[] beginnings) {
        for (String beginning : beginnings) {
            if (name.startsWith(beginning)) {
                return true;
            }
        }
        return beginnings.length == 0;
    }

    /** promise03_give belongs to "Promise 3", puzzleText_end to "Puzzle text", undo_four to "Undo". */
    private static String sectionOf(String name) {
        Matcher m = NAME.matcher(name);
        if (!m.matches()) {
            return name;
        }
        String words = m.group(1).replaceAll("(?=[A-Z])", " ").toLowerCase();
        String head = words.substring(0, 1).toUpperCase() + words.substring(1);
        return m.group(2) == null ? head : head + " " + Integer.parseInt(m.group(2));
    }

    private static void quote(Document document, String name, String[] quotes) {
        for (String words : quotes) {
            if (!document.quote(sectionOf(name), words)) {
                failed++;
                System.out.println(name + " quotes what the document does not say there: " + words);
            }
        }
    }

    private static void runOne(Method method) {
        Check check = new Check();
        boolean good = false;
        try {
            method.setAccessible(true);
            method.invoke(null, check);
            good = check.isGood();
        } catch (InvocationTargetException e) {
            e.getCause().printStackTrace(System.out);
        } catch (IllegalAccessException e) {
            System.out.println(e);
        }
        run++;
        if (!good) {
            failed++;
            System.out.println("FAIL " + method.getName());
        }
    }
}
