import java.io.ByteArrayOutputStream;
import java.io.IOException;
import java.io.OutputStream;
import java.io.PrintStream;
import java.net.URI;
import java.nio.file.Files;
import java.nio.file.Path;
import java.util.ArrayList;
import java.util.HashMap;
import java.util.List;
import java.util.Map;
import java.util.concurrent.ExecutorService;
import java.util.concurrent.Executors;
import java.util.concurrent.Future;
import java.util.regex.Matcher;
import java.util.regex.Pattern;
import javax.tools.FileObject;
import javax.tools.ForwardingJavaFileManager;
import javax.tools.JavaCompiler;
import javax.tools.JavaFileManager;
import javax.tools.JavaFileObject;
import javax.tools.SimpleJavaFileObject;
import javax.tools.ToolProvider;

/**
 * A tool beside the tests, not one of them: breaks PageHold.java at one place after another and tells
 * which breaks the tests of boundaries do not see. Run from the project's root:
 * java -cp CLASSES Mutants CLASSES, with CLASSES as javac made them of the main and test sources.
 */
public final class Mutants {
    private static final String[] TESTS = {"BoundariesTermsTest", "BoundariesBytesTest", "BoundariesDiskTest",
        "BoundariesSeenTest"};
    private static final String[][] SWAPS = {{" < ", " <= "}, {" < ", " > "}, {" <= ", " < "}, {" > ", " >= "},
        {" > ", " < "}, {" >= ", " > "}, {" == ", " != "}, {" != ", " == "}, {" && ", " || "}, {" || ", " && "},
        {" + ", " - "}, {" - ", " + "}, {" * ", " + "}, {" / ", " * "}, {" % ", " / "}, {"++", "--"}, {"--", "++"},
        {" += ", " -= "}, {"true", "false"}, {"false", "true"}, {"Math.min", "Math.max"}, {"Math.max", "Math.min"},
        {"(!", "("}, {" !", " "}, {"NO_ROOM", "DEFECT"}, {"DEFECT", "NO_ROOM"}, {"NO_FRAME", "BAD"}, {"BAD", "NONE"},
        {"NONE", "0"}, {"active", "inactive"}, {"inactive", "active"}, {">>>", ">>"}, {"most", "most + 1"},
        {"frames.most / 2", "(frames.most + 1) / 2"}, {"frames.most / 4", "(frames.most + 3) / 4"},
        {"READ", "WRITE"}, {"WRITE", "READ"}};
    private static final long PATIENCE = 15_000;

    record Mutant(int line, String was, String is, String source) {
    }

    public static void main(String[] args) throws Exception {
        Path classes = Path.of(args[0]);
        String source = Files.readString(Path.of("src/main/java/PageHold.java"));
        List<Mutant> mutants = mutants(source);
        PrintStream out = System.out;
        System.setOut(new PrintStream(OutputStream.nullOutputStream()));
        ExecutorService pool = Executors.newFixedThreadPool(Runtime.getRuntime().availableProcessors());
        List<Future<String>> fates = new ArrayList<>();
        for (Mutant m : mutants) fates.add(pool.submit(() -> fate(m, classes)));
        Map<String, Integer> counts = new HashMap<>();
        for (int i = 0; i < mutants.size(); i++) {
            String fate = fates.get(i).get();
            counts.merge(fate, 1, Integer::sum);
            Mutant m = mutants.get(i);
            if (fate.equals("not seen")) out.println("line " + m.line + "\n  was " + m.was.trim() + "\n  is  " + m.is.trim());
        }
        out.println(counts);
        System.exit(0);
    }

    private static List<Mutant> mutants(String source) {
        List<Mutant> all = new ArrayList<>();
        String[] lines = source.split("\n");
        for (int i = 0; i < lines.length; i++) {
            String line = lines[i];
            if (line.matches("\\s*(/\\*\\*|\\*|//|import|public static final|case|default).*") && !line.contains("return")) continue;
            for (String broken : broken(line)) {
                lines[i] = broken;
                all.add(new Mutant(i + 1, line, broken, String.join("\n", lines)));
                lines[i] = line;
            }
        }
        return all;
    }

    private static List<String> broken(String line) {
        List<String> all = new ArrayList<>();
        for (String[] swap : SWAPS) {
            for (int at = line.indexOf(swap[0]); at >= 0; at = line.indexOf(swap[0], at + 1)) {
                all.add(line.substring(0, at) + swap[1] + line.substring(at + swap[0].length()));
            }
        }
        Matcher number = Pattern.compile("\\b\\d+\\b").matcher(line);
        while (number.find()) {
            int n = Integer.parseInt(number.group());
            for (int other : new int[] {n + 1, n - 1}) {
                all.add(line.substring(0, number.start()) + other + line.substring(number.end()));
            }
        }
        if (line.matches("\\s+[\\w.\\[\\]]+(\\(.*\\)|\\+\\+|--| [-+&]?= .*);")) all.add("");
        if (line.matches("\\s+(break|continue|return);")) all.add("");
        Matcher condition = Pattern.compile("if \\((.*)\\) \\{").matcher(line);
        if (condition.find()) {
            all.add(condition.replaceFirst(Matcher.quoteReplacement("if (!(" + condition.group(1) + ")) {")));
            all.add(condition.replaceFirst("if (false) {"));
        }
        return all;
    }

    private static String fate(Mutant m, Path classes) throws Exception {
        Map<String, byte[]> made = compiled(m.source);
        if (made == null) return "no Java";
        boolean[] seen = {false};
        Thread thread = new Thread(() -> seen[0] = isSeen(made, classes));
        thread.setDaemon(true);
        thread.start();
        thread.join(PATIENCE);
        if (!thread.isAlive()) return seen[0] ? "seen" : "not seen";
        halt(thread);
        return "does not end";
    }

    @SuppressWarnings({"deprecation", "removal"})
    private static void halt(Thread thread) {
        thread.stop();
    }

    private static boolean isSeen(Map<String, byte[]> made, Path classes) {
        try {
            ClassLoader loader = new Loader(made, classes);
            for (String test : TESTS) {
                var failures = loader.loadClass("Checks").getDeclaredMethod("failures", Class.class);
                failures.setAccessible(true);
                if ((int) failures.invoke(null, loader.loadClass(test)) != 0) return true;
            }
            return false;
        } catch (ReflectiveOperationException e) {
            return true;
        }
    }

    /** Takes PageHold from the mutant and the tests from their classes, all anew. */
    private static final class Loader extends ClassLoader {
        private final Map<String, byte[]> made;
        private final Path classes;

        Loader(Map<String, byte[]> made, Path classes) {
            super(ClassLoader.getPlatformClassLoader());
            this.made = made;
            this.classes = classes;
        }

        @Override
        protected Class<?> findClass(String name) throws ClassNotFoundException {
            try {
                byte[] bytes = made.get(name);
                if (bytes == null) bytes = Files.readAllBytes(classes.resolve(name + ".class"));
                return defineClass(name, bytes, 0, bytes.length);
            } catch (IOException e) {
                throw new ClassNotFoundException(name, e);
            }
        }
    }

    /** The classes of a source by their names; null when it is not Java. */
    private static Map<String, byte[]> compiled(String source) {
        JavaCompiler compiler = ToolProvider.getSystemJavaCompiler();
        Map<String, ByteArrayOutputStream> streams = new HashMap<>();
        JavaFileManager files = new ForwardingJavaFileManager<JavaFileManager>(compiler.getStandardFileManager(null, null, null)) {
            @Override
            public JavaFileObject getJavaFileForOutput(Location to, String name, JavaFileObject.Kind kind, FileObject sibling) {
                return new SimpleJavaFileObject(URI.create("mem:///" + name), kind) {
                    @Override
                    public OutputStream openOutputStream() {
                        return streams.computeIfAbsent(name, n -> new ByteArrayOutputStream());
                    }
                };
            }
        };
        JavaFileObject text = new SimpleJavaFileObject(URI.create("mem:///PageHold.java"), JavaFileObject.Kind.SOURCE) {
            @Override
            public CharSequence getCharContent(boolean ignore) {
                return source;
            }
        };
        boolean fine = compiler.getTask(null, files, d -> { }, List.of("-proc:none"), null, List.of(text)).call();
        if (!fine) return null;
        Map<String, byte[]> classes = new HashMap<>();
        streams.forEach((name, stream) -> classes.put(name, stream.toByteArray()));
        return classes;
    }
}
