import java.io.IOException;
import java.lang.reflect.Constructor;
import java.lang.reflect.Field;
import java.lang.reflect.Method;
import java.lang.reflect.Modifier;
import java.nio.file.Files;
import java.nio.file.Path;
import java.nio.file.Paths;
import java.util.ArrayList;
import java.util.Collections;
import java.util.List;

/** The public face: what the document shows, with its exceptions, and nothing else. */
public final class FaceTest {
    public static void main(String[] args) throws IOException {
        Watch.begin("FaceTest");
        Path path = Paths.get("../shared/DOC.md");
        if (!Files.exists(path)) {
            System.out.println("no " + path + ": the face is not compared with it");
            return;
        }
        List<String> due = new ArrayList<>();
        for (String line : new Document(path).signatures()) {
            due.add(line.replaceAll("\\b(int|long|boolean) \\w+(?=[,)])", "$1").replace(";", ""));
        }
        List<String> got = members();
        Collections.sort(due);
        Collections.sort(got);
        Check check = new Check();
        check.due("as many members", got.size(), due.size());
        for (int k = 0; k < Math.min(got.size(), due.size()); k++) {
            check.same("the face has", got.get(k), due.get(k));
        }
        check.due("a package", NumberPlace.class.getPackageName().length(), 0);
        check.end();
    }

    /** The members that are not private, written as the document writes them, without parameter names. */
    private static List<String> members() {
        List<String> result = new ArrayList<>();
        result.add(Modifier.toString(NumberPlace.class.getModifiers()) + " class NumberPlace {");
        for (Field field : NumberPlace.class.getDeclaredFields()) {
            if (!Modifier.isPrivate(field.getModifiers())) {
                result.add(Modifier.toString(field.getModifiers()) + " " + field.getType() + " " + field.getName()
                        + " = " + NumberPlace.NONE);
            }
        }
        for (Constructor<?> made : NumberPlace.class.getDeclaredConstructors()) {
            result.add(Modifier.toString(made.getModifiers()) + " NumberPlace(" + names(made.getParameterTypes()) + ")");
        }
        for (Method method : NumberPlace.class.getDeclaredMethods()) {
            if (!Modifier.isPrivate(method.getModifiers()) && !method.isSynthetic()) {
                String thrown = names(method.getExceptionTypes());
                result.add(Modifier.toString(method.getModifiers()) + " " + method.getReturnType() + " "
                        + method.getName() + "(" + names(method.getParameterTypes()) + ")"
                        + (thrown.isEmpty() ? "" : " throws " + thrown));
            }
        }
        return result;
    }

    private static String names(Class<?>[] types) {
        StringBuilder b = new StringBuilder();
        for (Class<?> type : types) {
            b.append(b.length() > 0 ? ", " : "").append(type.getSimpleName());
        }
        return b.toString();
    }
}
