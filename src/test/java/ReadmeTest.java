import java.net.URL;
import java.net.URLClassLoader;
import java.nio.file.Files;
import java.nio.file.Path;
import java.util.List;
import java.util.regex.Matcher;
import java.util.regex.Pattern;
import javax.tools.ToolProvider;

/** README.md is right: all its Java together, as one method, gives the answers that stand behind the calls. */
public final class ReadmeTest {
    private static final Pattern BLOCK = Pattern.compile("(?s)```java\n(.*?)```");
    private static final Pattern ANSWERED = Pattern.compile("(?m)^(x\\.(\\w+)\\(.*?\\));\\s*// (-?[0-9]+)\\b");
    private static int wrong = 0;
    private static int asked = 0;

    /** Called by what is made of README.md. */
    public static void due(String call, long got, long want) {
        asked++;
        if (got != want) {
            wrong++;
            System.out.println("README.md: " + call + " answered " + got + ", told is " + want);
        }
    }

    private static String program(String readme) {
        StringBuilder t = new StringBuilder("public final class Told { public static void run() {\n");
        Matcher block = BLOCK.matcher(readme);
        while (block.find()) {
            t.append(ANSWERED.matcher(block.group(1)).replaceAll("ReadmeTest.due(\"$1\", $1, $3L); //"));
        }
        return t.append("}}\n").toString();
    }

    private static void run(String program) throws Exception {
        Path dir = Files.createTempDirectory("readme");
        Path file = dir.resolve("Told.java");
        Files.writeString(file, program);
        int made = ToolProvider.getSystemJavaCompiler().run(null, null, null, "-proc:none", "-cp",
            System.getProperty("java.class.path"), "-d", dir.toString(), file.toString());
        due("the Java of the page, compiled,", made, 0);
        if (made == 0) {
            try (URLClassLoader loader = new URLClassLoader(new URL[] {dir.toUri().toURL()})) {
                loader.loadClass("Told").getMethod("run").invoke(null);
            }
        }
        for (Path path : List.of(dir.resolve("Told.class"), file, dir)) {
            Files.deleteIfExists(path);
        }
    }

    public static void main(String[] args) throws Exception {
        run(program(Files.readString(Path.of("README.md"))));
        // Without blocks that can be found, nothing would be asked.
        due("so many answers are told: enough are", asked >= 30 ? 1 : 0, 1);
        System.out.println(asked + " answers asked, " + wrong + " are not as told");
        if (wrong != 0) {
            System.exit(1);
        }
    }
}
