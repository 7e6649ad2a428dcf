import java.io.ByteArrayOutputStream;
import java.io.IOException;
import java.io.PrintStream;
import java.lang.reflect.InvocationTargetException;
import java.lang.reflect.Method;
import java.net.URL;
import java.net.URLClassLoader;
import java.nio.file.Files;
import java.nio.file.Path;
import javax.tools.JavaCompiler;
import javax.tools.ToolProvider;

/** Compiles a public class with a main method, runs it, and keeps what it prints. */
final class Compiled {
    static boolean isPossible() {
        return ToolProvider.getSystemJavaCompiler() != null;
    }

    /** What the main method prints; or why there is nothing. */
    static String printed(String name, String source) throws IOException {
        Path directory = Files.createTempDirectory("readme");
        Path file = directory.resolve(name + ".java");
        PrintStream before = System.out;
        ByteArrayOutputStream out = new ByteArrayOutputStream();
        try {
            Files.write(file, source.getBytes());
            JavaCompiler compiler = ToolProvider.getSystemJavaCompiler();
            int errors = compiler.run(null, System.out, System.out, "-d", directory.toString(), "-cp",
                    System.getProperty("java.class.path"), file.toString());
            if (errors != 0) {
                return name + " does not compile";
            }
            URL[] urls = {directory.toUri().toURL()};
            try (URLClassLoader loader = new URLClassLoader(urls, Compiled.class.getClassLoader())) {
                Method main = loader.loadClass(name).getMethod("main", String[].class);
                System.setOut(new PrintStream(out, true));
                main.invoke(null, (Object) new String[0]);
            }
        } catch (InvocationTargetException e) {
            return name + " throws " + e.getCause();
        } catch (ReflectiveOperationException e) {
            return name + " cannot be run: " + e;
        } finally {
            System.setOut(before);
            delete(directory);
        }
        return out.toString().replace("\r\n", "\n");
    }

    private static void delete(Path directory) throws IOException {
        for (java.io.File file : directory.toFile().listFiles()) {
            Files.delete(file.toPath());
        }
        Files.delete(directory);
    }
}
