import java.io.IOException;
import java.net.URL;
import java.net.URLClassLoader;
import java.nio.file.Files;
import java.nio.file.Path;
import java.util.regex.Matcher;
import java.util.regex.Pattern;
import javax.tools.ToolProvider;

/** The lines of Java in README.md are compiled and run: each call has to answer the number behind its "//". */
public final class ReadmeTest {
    private static final Pattern TOLD = Pattern.compile("(?:int (\\w+) = )?(.*?);\\s*// (-?\\d+).*");

    private static final Due DUE = new Due("ReadmeTest");

    public static void main(String[] args) throws IOException, ReflectiveOperationException {
        Path place = Files.createDirectories(Path.of("build/readme"));
        Path file = place.resolve("ReadmeLines.java");
        Files.writeString(file, program());
        String path = System.getProperty("java.class.path");
        int failed = ToolProvider.getSystemJavaCompiler().run(null, null, null, "-cp", path, "-d", place.toString(), file.toString());
        DUE.is("README.md's lines, compiled,", failed, 0);
        if (failed == 0) {
            try (URLClassLoader loader = new URLClassLoader(new URL[] {place.toUri().toURL()})) {
                loader.loadClass("ReadmeLines").getMethod("go").invoke(null);
            }
        }
        DUE.end();
    }

    /** The compiled lines tell their answers here. */
    public static void is(String line, long got, long want) {
        DUE.is(line, got, want);
    }

    private static String program() throws IOException {
        StringBuilder text = new StringBuilder("public class ReadmeLines { public static void go() {\n");
        boolean java = false;
        for (String line : Files.readAllLines(Path.of("README.md"))) {
            if (line.startsWith("```")) {
                java = line.equals("```java");
            } else if (java) {
                text.append(statement(line)).append('\n');
            }
        }
        return text.append("} }").toString();
    }

    private static String statement(String line) {
        Matcher told = TOLD.matcher(line);
        if (!told.matches()) {
            return line;
        }
        String name = told.group(1);
        String call = told.group(2);
        String given = name == null ? "" : "int " + name + " = " + call + "; ";
        return given + "ReadmeTest.is(\"" + call + "\", " + (name == null ? call : name) + ", " + told.group(3) + ");";
    }
}
