import java.io.IOException;
import java.io.StringWriter;
import java.lang.reflect.Method;
import java.lang.reflect.Modifier;
import java.net.URL;
import java.net.URLClassLoader;
import java.nio.file.Files;
import java.nio.file.Path;
import java.util.List;
import java.util.function.BiConsumer;
import java.util.regex.Matcher;
import java.util.regex.Pattern;
import javax.tools.JavaCompiler;
import javax.tools.ToolProvider;

/** README.md's examples compile, and each line with a number behind it answers that number (run from the project's folder). */
public final class ReadmeTest {
    private static final Pattern BLOCK = Pattern.compile("```java\n(.*?)```", Pattern.DOTALL);
    private static final Pattern LINE = Pattern.compile("(x\\.(\\w+)\\(.*\\)); +// (-?\\d+)(:.*)?");

    private final Check check = new Check("ReadmeTest");
    private final String readme;

    private ReadmeTest(String readme) {
        this.readme = readme;
    }

    public static void main(String[] args) throws Exception {
        ReadmeTest test = new ReadmeTest(Files.readString(Path.of("README.md")));
        test.namesEveryCall();
        test.answersAsItSays();
        test.check.end();
    }

    private void namesEveryCall() {
        for (Method method : ActorTrees.class.getDeclaredMethods()) {
            if (Modifier.isPublic(method.getModifiers())) {
                check.due("the README's table names " + method.getName(), readme.contains("`" + method.getName() + "`") ? 1 : 0, 1);
            }
        }
    }

    private void answersAsItSays() throws Exception {
        Path made = Files.createTempDirectory("readme");
        Path source = made.resolve("Readme.java");
        Files.writeString(source, program());
        JavaCompiler compiler = ToolProvider.getSystemJavaCompiler();
        try (var files = compiler.getStandardFileManager(null, null, null);
                URLClassLoader loader = new URLClassLoader(new URL[] {made.toUri().toURL()}, ReadmeTest.class.getClassLoader())) {
            StringWriter told = new StringWriter();
            List<String> options = List.of("-proc:none", "-cp", System.getProperty("java.class.path"), "-d", made.toString());
            boolean compiles = compiler.getTask(told, files, null, options, null, files.getJavaFileObjects(source)).call();
            check.due("the README's examples compile: " + told, compiles ? 1 : 0, 1);
            if (compiles) {
                BiConsumer<String, int[]> due = (call, two) -> check.due(call, two[0], two[1]);
                loader.loadClass("Readme").getMethod("run", BiConsumer.class).invoke(null, due);
            }
        } finally {
            removeAll(made);
        }
    }

    /** The examples as a class: each is a block of its own, each line with a number behind it is looked at. */
    private String program() {
        StringBuilder text = new StringBuilder("public class Readme {\n");
        text.append("public static void run(java.util.function.BiConsumer<String, int[]> due) {\n");
        int lines = 0;
        for (Matcher block = BLOCK.matcher(readme); block.find(); ) {
            text.append("{\n");
            for (String line : block.group(1).split("\n")) {
                Matcher asked = LINE.matcher(line);
                boolean isAsked = asked.matches();
                lines += isAsked ? 1 : 0;
                check.due("a line that is looked at, or no call: " + line, isAsked || !line.startsWith("x.") ? 1 : 0, 1);
                text.append(isAsked ? lineOf(asked.group(1), asked.group(3)) : line).append('\n');
            }
            text.append("}\n");
        }
        check.due("there are examples", lines > 0 ? 1 : 0, 1);
        return text.append("}\n}\n").toString();
    }

    private static String lineOf(String call, String answer) {
        return "due.accept(\"" + call.replace("\"", "\\\"") + "\", new int[] {" + call + ", " + answer + "});";
    }

    private static void removeAll(Path folder) throws IOException {
        try (var inside = Files.list(folder)) {
            for (Path file : inside.toList()) {
                Files.delete(file);
            }
        }
        Files.delete(folder);
    }
}
