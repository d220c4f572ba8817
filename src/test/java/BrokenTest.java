import java.io.ByteArrayOutputStream;
import java.io.IOException;
import java.io.InputStream;
import java.io.OutputStream;
import java.io.PrintStream;
import java.lang.reflect.InvocationTargetException;
import java.net.URI;
import java.nio.file.Files;
import java.nio.file.Path;
import java.util.HashMap;
import java.util.List;
import java.util.Map;
import javax.tools.FileObject;
import javax.tools.ForwardingJavaFileManager;
import javax.tools.JavaCompiler;
import javax.tools.JavaFileManager;
import javax.tools.JavaFileObject;
import javax.tools.SimpleJavaFileObject;
import javax.tools.StandardJavaFileManager;
import javax.tools.ToolProvider;

/** Breaks the class, a line at a time, as each edge says, and looks that the edge's calls tell it (run from the project's folder). */
public final class BrokenTest {
    private static final Path SOURCE = Path.of("src", "main", "java", "ActorTrees.java");
    private static final long MOST_MILLIS = 20000;

    private final String source;
    private final JavaCompiler compiler = ToolProvider.getSystemJavaCompiler();
    private final StandardJavaFileManager files = compiler.getStandardFileManager(null, null, null);

    private BrokenTest(String source) {
        this.source = source;
    }

    public static void main(String[] args) throws Exception {
        BrokenTest test = new BrokenTest(Files.readString(SOURCE));
        PrintStream out = System.out;
        Map<String, byte[]> whole = test.compiled(test.source);
        int breaks = 0;
        int wrong = 0;
        for (Edges.Edge edge : Edges.all()) {
            if (args.length > 0 && !edge.name().contains(args[0])) {
                continue;
            }
            // What the broken ones are told by must hold of the class as it is, by the same way.
            if (!holds(edge, whole)) {
                wrong++;
                out.println("BrokenTest: not held by the class itself: " + edge.name());
            }
            for (String told : edge.breaks()) {
                breaks++;
                System.setOut(new PrintStream(OutputStream.nullOutputStream()));
                String fault = test.faultOf(edge, told);
                System.setOut(out);
                if (!fault.isEmpty()) {
                    wrong++;
                    out.println("BrokenTest: " + fault + ": " + edge.name() + "\n    " + told);
                }
            }
        }
        out.println("BrokenTest: " + breaks + " broken lines, " + wrong + " not told by their edge");
        // A run that did not end may still go on.
        System.exit(wrong != 0 || breaks == 0 ? 1 : 0);
    }

    /** Why a break is not told by its edge; empty: it is. */
    private String faultOf(Edges.Edge edge, String told) throws Exception {
        String[] two = told.split(" ==> ", -1);
        if (two.length != 2 || two[0].equals(two[1])) {
            return "no break";
        }
        int place = source.indexOf(two[0]);
        if (place < 0 || source.indexOf(two[0], place + 1) >= 0) {
            return place < 0 ? "no such line in the class" : "the line stands more than once in the class";
        }
        Map<String, byte[]> classes = compiled(source.substring(0, place) + two[1] + source.substring(place + two[0].length()));
        if (classes.isEmpty()) {
            return "does not compile";
        }
        return holds(edge, classes) ? "not noticed" : "";
    }

    private Map<String, byte[]> compiled(String text) throws IOException {
        Map<String, ByteArrayOutputStream> made = new HashMap<>();
        JavaFileManager manager = new ForwardingJavaFileManager<>(files) {
            @Override
            public JavaFileObject getJavaFileForOutput(Location location, String name, JavaFileObject.Kind kind, FileObject sibling) {
                return new SimpleJavaFileObject(URI.create("memory:///" + name.replace('$', '_') + kind.extension), kind) {
                    @Override
                    public OutputStream openOutputStream() {
                        return made.computeIfAbsent(name, k -> new ByteArrayOutputStream());
                    }
                };
            }
        };
        JavaFileObject unit = new SimpleJavaFileObject(URI.create("memory:///ActorTrees.java"), JavaFileObject.Kind.SOURCE) {
            @Override
            public CharSequence getCharContent(boolean ignoreEncodingErrors) {
                return text;
            }
        };
        boolean compiles = compiler.getTask(null, manager, problem -> { }, List.of("-proc:none"), null, List.of(unit)).call();
        Map<String, byte[]> classes = new HashMap<>();
        if (compiles) {
            made.forEach((name, bytes) -> classes.put(name, bytes.toByteArray()));
        }
        return classes;
    }

    /** Whether the edge's calls find nothing wrong with these classes; a run that throws or does not end finds it. */
    private static boolean holds(Edges.Edge edge, Map<String, byte[]> classes) throws Exception {
        ClassLoader loader = new Loader(classes);
        boolean[] held = {false};
        Thread thread = new Thread(() -> {
            try {
                var method = loader.loadClass("Edges").getDeclaredMethod("holds", String.class);
                method.setAccessible(true);
                held[0] = (boolean) method.invoke(null, edge.name());
            } catch (InvocationTargetException thrown) {
                held[0] = false;
            } catch (ReflectiveOperationException fault) {
                throw new IllegalStateException(fault);
            }
        });
        thread.setDaemon(true);
        thread.start();
        thread.join(MOST_MILLIS);
        return held[0];
    }

    /** The tests' classes anew, over the broken class. */
    private static final class Loader extends ClassLoader {
        private final Map<String, byte[]> classes;

        Loader(Map<String, byte[]> classes) {
            super(BrokenTest.class.getClassLoader());
            this.classes = classes;
        }

        @Override
        protected Class<?> loadClass(String name, boolean resolve) throws ClassNotFoundException {
            synchronized (getClassLoadingLock(name)) {
                Class<?> known = findLoadedClass(name);
                if (known != null) {
                    return known;
                }
                byte[] bytes = name.startsWith("ActorTrees") ? classes.get(name) : bytesOf(name);
                return bytes == null ? super.loadClass(name, resolve) : defineClass(name, bytes, 0, bytes.length);
            }
        }

        private byte[] bytesOf(String name) {
            if (name.contains(".")) {
                return null;
            }
            try (InputStream in = getResourceAsStream(name + ".class")) {
                return in == null ? null : in.readAllBytes();
            } catch (IOException unread) {
                return null;
            }
        }
    }
}
