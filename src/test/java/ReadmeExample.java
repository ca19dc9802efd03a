import java.io.IOException;
import java.net.URL;
import java.net.URLClassLoader;
import java.nio.file.Files;
import java.nio.file.Path;
import java.util.regex.Matcher;
import java.util.regex.Pattern;
import javax.tools.ToolProvider;

/** README.md's example as it stands there: a call with a number behind it must answer that number. */
public final class ReadmeExample {
    private static final Pattern TOLD = Pattern.compile("\\s*(desk\\..*\\));\\s*// (-?[0-9]+):.*");

    public static void main(String[] args) throws Exception {
        Path folder = Files.createTempDirectory("readme");
        Path source = folder.resolve("Example.java");
        int answers = write(source);
        int compiled = ToolProvider.getSystemJavaCompiler().run(null, null, null,
            "-cp", System.getProperty("java.class.path"), source.toString());
        int wrong = compiled == 0 ? run(folder) : 1;
        Files.deleteIfExists(folder.resolve("Example.class"));
        Files.delete(source);
        Files.delete(folder);
        boolean due = wrong == 0 && answers > 0;
        System.out.println("ReadmeExample: " + answers + " answers, " + (due ? "all as due" : "wrong"));
        if (!due) System.exit(1);
    }

    private static int run(Path folder) throws Exception {
        URL[] at = {folder.toUri().toURL()};
        try (URLClassLoader loader = new URLClassLoader(at, ReadmeExample.class.getClassLoader())) {
            return (int) loader.loadClass("Example").getMethod("wrong").invoke(null);
        }
    }

    /** How many answers the example tells. */
    private static int write(Path source) throws IOException {
        String readme = Files.readString(Path.of("README.md"));
        int start = readme.indexOf("```java\n");
        int end = readme.indexOf("```\n", start + 1);
        if (start < 0 || end < 0) return 0;
        StringBuilder text = new StringBuilder("public class Example {\n"
            + "static int wrong;\n"
            + "static void due(int line, int got, int want) {\n"
            + "if (got != want) { wrong++; System.out.println(\"README.md, line \" + line + \" answered \" + got); }\n"
            + "}\n"
            + "public static int wrong() {\n");
        int answers = 0;
        int line = (int) readme.substring(0, start).lines().count() + 1;
        for (String code : readme.substring(start, end).lines().skip(1).toList()) {
            line++;
            Matcher told = TOLD.matcher(code);
            if (told.matches()) {
                answers++;
                text.append("due(").append(line).append(", ").append(told.group(1)).append(", ").append(told.group(2)).append(");\n");
            } else {
                text.append(code).append('\n');
            }
        }
        Files.writeString(source, text.append("return wrong;\n}\n}\n"));
        return answers;
    }
}
