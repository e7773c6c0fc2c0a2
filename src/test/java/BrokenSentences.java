import java.io.ByteArrayOutputStream;
import java.io.IOException;
import java.io.OutputStream;
import java.io.Writer;
import java.lang.reflect.InvocationTargetException;
import java.lang.reflect.Method;
import java.net.URI;
import java.nio.file.Files;
import java.nio.file.Path;
import java.util.ArrayList;
import java.util.HashMap;
import java.util.List;
import java.util.Map;
import java.util.concurrent.ExecutionException;
import java.util.concurrent.ExecutorService;
import java.util.concurrent.Executors;
import java.util.concurrent.Future;
import javax.tools.ForwardingJavaFileManager;
import javax.tools.JavaCompiler;
import javax.tools.JavaFileManager;
import javax.tools.JavaFileObject;
import javax.tools.SimpleJavaFileObject;
import javax.tools.ToolProvider;

/**
 * Not a test of the class but of its tests: for each sentence of the document that src/test/broken/sentences.txt
 * lists, the class is changed so that this sentence alone is broken, and the tests by hand must tell of it under
 * the number of its promise. src/test/broken/run starts it.
 */
final class BrokenSentences {
    private static final Path CLASS = Path.of("src/main/java/DrumOfGuilt.java");
    private static final Path SENTENCES = Path.of("src/test/broken/sentences.txt");
    private static final Path TESTS = Path.of("build/own");
    private static final List<String> BY_HAND = List.of("PeopleTest", "LawTest", "DuskTest", "BestTest", "GuessTest",
        "EveningsTest", "LotsTest", "HostTest", "ChangesNothingTest");

    /** One sentence, and the class with that sentence broken; a fault instead where that can't be made. */
    private record Broken(String sentence, String source, String fault) {
        /** The number of its promise, and a blank: so begins what a test tells of it. */
        String promise() {
            return sentence.substring(0, sentence.indexOf(' ') + 1);
        }
    }

    private BrokenSentences() {
    }

    public static void main(String[] args) throws IOException, InterruptedException, ExecutionException {
        boolean atLength = args.length > 0;
        List<Broken> all = sentences(Files.readString(CLASS), Files.readAllLines(SENTENCES));
        ExecutorService workers = Executors.newFixedThreadPool(Runtime.getRuntime().availableProcessors());
        List<Future<List<String>>> tellings = new ArrayList<>();
        for (Broken broken : all) {
            tellings.add(workers.submit(() -> toldOf(broken, atLength)));
        }
        int untold = 0;
        for (int i = 0; i < all.size(); i++) {
            List<String> told = tellings.get(i).get();
            String promise = all.get(i).promise();
            boolean fine = told.stream().anyMatch(line -> line.startsWith(promise));
            untold += fine ? 0 : 1;
            if (!fine || atLength) {
                System.out.println((fine ? "told: " : "NOT TOLD: ") + all.get(i).sentence());
                told.stream().limit(atLength ? 40 : 3).forEach(line -> System.out.println("    " + line));
            }
        }
        workers.shutdown();
        System.out.println(all.size() + " broken sentences, " + untold + " of them not told of");
        System.exit(untold == 0 ? 0 : 1);
    }

    /**
     * A sentence is a line that begins with the number of its promise; behind it "@ " and what begins the method to
     * be changed, "- " and what stands there, "+ " and what comes instead.
     */
    private static List<Broken> sentences(String source, List<String> lines) {
        List<Broken> all = new ArrayList<>();
        String sentence = "";
        String within = "";
        String old = "";
        String changed = source;
        String fault = "";
        for (int i = 0; i <= lines.size(); i++) {
            String line = i < lines.size() ? lines.get(i) : "0 end";
            char first = line.isEmpty() ? '#' : line.charAt(0);
            String rest = line.length() < 2 ? "" : line.substring(2);
            if (Character.isDigit(first)) {
                if (!sentence.isEmpty()) {
                    all.add(new Broken(sentence, changed, changed.equals(source) ? fault + " nothing changed" : fault));
                }
                sentence = line;
                within = "";
                changed = source;
                fault = "";
            } else if (first == '@') {
                within = rest;
            } else if (first == '-') {
                old = rest;
            } else if (first == '+') {
                int at = placeOf(changed, within, old);
                fault = at < 0 ? fault + " not there: " + within + ": " + old : fault;
                changed = at < 0 ? changed : changed.substring(0, at) + rest + changed.substring(at + old.length());
            }
        }
        return all;
    }

    private static int placeOf(String source, String within, String old) {
        int from = source.indexOf(within);
        if (from < 0 || source.indexOf(within, from + 1) >= 0 && !within.isEmpty()) {
            return -1;
        }
        int line = source.lastIndexOf('\n', from) + 1;
        int indent = 0;
        while (source.charAt(line + indent) == ' ') {
            indent++;
        }
        int end = within.isEmpty() ? source.length() : source.indexOf("\n" + " ".repeat(indent) + "}", from);
        int at = source.indexOf(old, from);
        return at >= 0 && at + old.length() <= end ? at : -1;
    }

    /** What the tests by hand tell of a broken class: not at length, no more than till one tells of its promise. */
    private static List<String> toldOf(Broken broken, boolean atLength) {
        if (!broken.fault().isEmpty()) {
            return List.of("can't be broken:" + broken.fault());
        }
        Map<String, byte[]> classes = compiled(broken.source());
        if (classes.isEmpty()) {
            return List.of("does not compile");
        }
        List<String> told = new ArrayList<>();
        Loader loader = new Loader(classes);
        try {
            for (String test : BY_HAND) {
                told.addAll(toldBy(test, loader));
                if (!atLength && told.stream().anyMatch(line -> line.startsWith(broken.promise()))) {
                    return told;
                }
            }
        } catch (ReflectiveOperationException exception) {
            told.add(exception.toString());
        }
        return told;
    }

    /** What one test tells, beside what was told ahead of it. */
    private static List<String> toldBy(String test, Loader loader) throws ReflectiveOperationException {
        List<String> told = new ArrayList<>();
        Method otherwise = loader.loadClass("Checks").getDeclaredMethod("otherwise");
        Method all = loader.loadClass(test).getDeclaredMethod("all");
        otherwise.setAccessible(true);
        all.setAccessible(true);
        List<?> lines = (List<?>) otherwise.invoke(null);
        int ahead = lines.size();
        try {
            all.invoke(null);
        } catch (InvocationTargetException exception) {
            told.add(test + " ended with " + exception.getCause());
        }
        for (Object line : lines.subList(ahead, lines.size())) {
            told.add((String) line);
        }
        return told;
    }

    private static Map<String, byte[]> compiled(String source) {
        JavaCompiler compiler = ToolProvider.getSystemJavaCompiler();
        Map<String, ByteArrayOutputStream> written = new HashMap<>();
        JavaFileManager files = new InMemory(compiler.getStandardFileManager(null, null, null), written);
        JavaFileObject file = new SimpleJavaFileObject(URI.create("string:///DrumOfGuilt.java"), JavaFileObject.Kind.SOURCE) {
            @Override
            public CharSequence getCharContent(boolean ignoreEncodingErrors) {
                return source;
            }
        };
        Map<String, byte[]> classes = new HashMap<>();
        if (compiler.getTask(Writer.nullWriter(), files, problem -> { }, null, null, List.of(file)).call()) {
            written.forEach((name, bytes) -> classes.put(name, bytes.toByteArray()));
        }
        return classes;
    }

    /** Classes are written to rows of bytes, not to files. */
    private static final class InMemory extends ForwardingJavaFileManager<JavaFileManager> {
        private final Map<String, ByteArrayOutputStream> written;

        InMemory(JavaFileManager files, Map<String, ByteArrayOutputStream> written) {
            super(files);
            this.written = written;
        }

        @Override
        public JavaFileObject getJavaFileForOutput(Location location, String name, JavaFileObject.Kind kind,
                javax.tools.FileObject sibling) {
            return new SimpleJavaFileObject(URI.create("mem:///" + name.replace('.', '/') + kind.extension), kind) {
                @Override
                public OutputStream openOutputStream() {
                    ByteArrayOutputStream bytes = new ByteArrayOutputStream();
                    written.put(name, bytes);
                    return bytes;
                }
            };
        }
    }

    /** The broken class, and the tests anew, so that what they count is counted for it alone. */
    private static final class Loader extends ClassLoader {
        private final Map<String, byte[]> classes;

        Loader(Map<String, byte[]> classes) {
            super(ClassLoader.getPlatformClassLoader());
            this.classes = classes;
        }

        @Override
        protected Class<?> findClass(String name) throws ClassNotFoundException {
            try {
                byte[] bytes = classes.get(name);
                bytes = bytes != null ? bytes : Files.readAllBytes(TESTS.resolve(name + ".class"));
                return defineClass(name, bytes, 0, bytes.length);
            } catch (IOException exception) {
                throw new ClassNotFoundException(name, exception);
            }
        }
    }
}
