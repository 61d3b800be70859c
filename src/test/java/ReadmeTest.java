import java.net.URL;
import java.net.URLClassLoader;
import java.nio.file.Files;
import java.nio.file.Path;
import java.util.regex.Matcher;
import java.util.regex.Pattern;
import javax.tools.ToolProvider;

/** README.md tells how the class is used: its examples compile, and each call answers what its comment says. */
public final class ReadmeTest {
    private static final Pattern BLOCK = Pattern.compile("(?s)```java\n(.*?)```");
    private static final Pattern ANSWERED = Pattern.compile("(?m)^(bread\\.\\w+\\(.*?\\)); +// (-?\\d+|true|false)\\b.*$");

    private static int wrong;

    /** The examples call it. */
    public static void due(String call, Object got, String want) {
        if (!want.equals(String.valueOf(got))) {
            wrong++;
            System.out.println("README.md: " + call + " answered " + got + ", not " + want);
        }
    }

    private static String checked(String example) {
        Matcher calls = ANSWERED.matcher(example);
        StringBuilder out = new StringBuilder();
        while (calls.find()) {
            String line = "ReadmeTest.due(\"" + calls.group(1) + "\", " + calls.group(1) + ", \"" + calls.group(2) + "\");";
            calls.appendReplacement(out, Matcher.quoteReplacement(line));
        }
        return calls.appendTail(out).toString();
    }

    private static String program(String readme) {
        StringBuilder members = new StringBuilder();
        StringBuilder steps = new StringBuilder();
        Matcher blocks = BLOCK.matcher(readme);
        while (blocks.find()) {
            boolean member = blocks.group(1).startsWith("static ");
            (member ? members : steps).append(member ? blocks.group(1) : checked(blocks.group(1)));
        }
        return "import java.nio.ByteBuffer;\nimport java.nio.charset.StandardCharsets;\nimport java.util.Arrays;\n"
                + "public class Example {\n" + members + "public static void main(String[] args) {\n" + steps + "}\n}\n";
    }

    public static void main(String[] args) throws Exception {
        String text = program(Files.readString(Path.of(args.length > 0 ? args[0] : ".", "README.md")));
        int calls = text.split("ReadmeTest\\.due", -1).length - 1;
        Path folder = Files.createTempDirectory("readme");
        Path file = folder.resolve("Example.java");
        Files.writeString(file, text);
        int compiled = ToolProvider.getSystemJavaCompiler().run(null, null, null,
                "-cp", System.getProperty("java.class.path"), "-d", folder.toString(), file.toString());
        if (compiled == 0) {
            try (URLClassLoader loader = new URLClassLoader(new URL[] {folder.toUri().toURL()})) {
                loader.loadClass("Example").getMethod("main", String[].class).invoke(null, (Object) new String[0]);
            }
        }
        for (String name : new String[] {"Example.class", "Example.java"}) {
            Files.deleteIfExists(folder.resolve(name));
        }
        Files.delete(folder);
        System.out.println(calls + " answers in README.md, " + wrong + " not as it says");
        System.exit(compiled == 0 && wrong == 0 && calls > 0 ? 0 : 1);
    }
}
