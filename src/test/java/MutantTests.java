import java.io.ByteArrayOutputStream;
import java.io.IOException;
import java.io.InputStream;
import java.io.OutputStream;
import java.lang.reflect.Field;
import java.lang.reflect.Method;
import java.net.URI;
import java.nio.file.Files;
import java.nio.file.Path;
import java.util.HashMap;
import java.util.LinkedHashSet;
import java.util.List;
import java.util.Map;
import java.util.Set;
import java.util.regex.Matcher;
import java.util.regex.Pattern;
import javax.tools.FileObject;
import javax.tools.ForwardingJavaFileManager;
import javax.tools.JavaCompiler;
import javax.tools.JavaFileManager;
import javax.tools.JavaFileObject;
import javax.tools.SimpleJavaFileObject;
import javax.tools.StandardJavaFileManager;
import javax.tools.ToolProvider;

/**
 * The class with one sentence of the document broken on purpose, time and again: the boundary case of that
 * sentence must see it. So each of those cases is known to fail if what it stands for is broken.
 */
public final class MutantTests {
    private static final Path SOURCE = Path.of("src/main/java/StandingQueries.java");
    private static final String[] SUITES = {"TextBoundaryTests", "ChangeBoundaryTests", "AskBoundaryTests"};
    private static final long MOST_MILLIS = 60_000;
    private static int wrong = 0;

    private record Outcome(Set<String> names, Set<String> failed) {
    }

    private static void fail(String how) {
        wrong++;
        System.out.println(how);
    }

    /** The source with one place of it put otherwise; how it is broken into lines is nothing to it. */
    private static String broken(String source, String old, String now) {
        StringBuilder pattern = new StringBuilder();
        for (String word : old.split(" ")) {
            pattern.append(pattern.length() == 0 ? "" : "\\s+").append(Pattern.quote(word));
        }
        Matcher places = Pattern.compile(pattern.toString()).matcher(source);
        if (!places.find()) {
            fail("not in the source, so it can't be broken there: " + old);
            return source;
        }
        String result = source.substring(0, places.start()) + now + source.substring(places.end());
        if (places.find()) {
            fail("more than once in the source: " + old);
        }
        return result;
    }

    private static final class Written extends SimpleJavaFileObject {
        final ByteArrayOutputStream bytes = new ByteArrayOutputStream();

        Written(String name) {
            super(URI.create("mem:///" + name + ".class"), Kind.CLASS);
        }

        @Override
        public OutputStream openOutputStream() {
            return bytes;
        }
    }

    private static final class Source extends SimpleJavaFileObject {
        private final String code;

        Source(String code) {
            super(URI.create("mem:///StandingQueries.java"), Kind.SOURCE);
            this.code = code;
        }

        @Override
        public CharSequence getCharContent(boolean ignored) {
            return code;
        }
    }

    private static final class InMemory extends ForwardingJavaFileManager<StandardJavaFileManager> {
        final Map<String, Written> classes = new HashMap<>();

        InMemory(StandardJavaFileManager files) {
            super(files);
        }

        @Override
        public JavaFileObject getJavaFileForOutput(JavaFileManager.Location place, String name, JavaFileObject.Kind kind, FileObject of) {
            Written written = new Written(name);
            classes.put(name, written);
            return written;
        }
    }

    /** Loads the broken class, and the tests beside it anew, so that they meet the broken one. */
    private static final class Loader extends ClassLoader {
        private final Map<String, Written> classes;

        Loader(Map<String, Written> classes) {
            super(ClassLoader.getPlatformClassLoader());
            this.classes = classes;
        }

        @Override
        protected Class<?> findClass(String name) throws ClassNotFoundException {
            Written written = classes.get(name);
            byte[] bytes = written != null ? written.bytes.toByteArray() : compiled(name);
            return defineClass(name, bytes, 0, bytes.length);
        }

        private static byte[] compiled(String name) throws ClassNotFoundException {
            try (InputStream in = ClassLoader.getSystemResourceAsStream(name + ".class")) {
                if (in == null) {
                    throw new ClassNotFoundException(name);
                }
                return in.readAllBytes();
            } catch (IOException unread) {
                throw new ClassNotFoundException(name, unread);
            }
        }
    }

    private static Map<String, Written> compile(String code) {
        JavaCompiler compiler = ToolProvider.getSystemJavaCompiler();
        InMemory files = new InMemory(compiler.getStandardFileManager(null, null, null));
        boolean compiles = compiler.getTask(null, files, null, List.of("-proc:none"), null, List.of(new Source(code))).call();
        return compiles ? files.classes : null;
    }

    private static Set<?> setOf(Class<?> cases, String name) throws ReflectiveOperationException {
        Field field = cases.getDeclaredField(name);
        field.setAccessible(true);
        return (Set<?>) field.get(null);
    }

    private static Outcome outcomeOf(Map<String, Written> classes) throws ReflectiveOperationException {
        Loader loader = new Loader(classes);
        Class<?> cases = loader.loadClass("Cases");
        Field quiet = cases.getDeclaredField("quiet");
        quiet.setAccessible(true);
        quiet.setBoolean(null, true);
        for (String suite : SUITES) {
            Method run = loader.loadClass(suite).getDeclaredMethod("run");
            run.setAccessible(true);
            run.invoke(null);
        }
        Outcome outcome = new Outcome(new LinkedHashSet<>(), new LinkedHashSet<>());
        setOf(cases, "NAMES").forEach(name -> outcome.names.add((String) name));
        setOf(cases, "FAILED").forEach(name -> outcome.failed.add((String) name));
        return outcome;
    }

    /** A broken class may fail to end: then the whole test is given up. */
    private static Thread watchOver(String what) {
        Thread watch = new Thread(() -> {
            try {
                Thread.sleep(MOST_MILLIS);
                System.out.println("does not end: " + what);
                Runtime.getRuntime().halt(1);
            } catch (InterruptedException ended) {
                Thread.currentThread().interrupt();
            }
        });
        watch.setDaemon(true);
        watch.start();
        return watch;
    }

    private static void tryMutant(String source, String[] mutant, Set<String> seen) throws ReflectiveOperationException {
        Map<String, Written> classes = compile(broken(source, mutant[0], mutant[1]));
        if (classes == null) {
            fail("does not compile: " + mutant[1]);
            return;
        }
        Thread watch = watchOver(mutant[1]);
        Outcome outcome = outcomeOf(classes);
        watch.interrupt();
        for (int i = 2; i < mutant.length; i++) {
            seen.add(mutant[i]);
            if (!outcome.failed.contains(mutant[i])) {
                fail("'" + mutant[i] + "' does not see: " + mutant[1]);
            }
        }
    }

    /** Each case has a way to break it, and each way names cases that are there. */
    private static void sameNames(Set<String> cases, Set<String> seen) {
        for (String name : cases) {
            if (!seen.contains(name)) {
                fail("no way to break it is known: '" + name + "'");
            }
        }
        for (String name : seen) {
            if (!cases.contains(name)) {
                fail("no such case: '" + name + "'");
            }
        }
    }

    public static void main(String[] args) throws IOException, ReflectiveOperationException {
        String source = Files.readString(SOURCE);
        Set<String> seen = new LinkedHashSet<>();
        for (String[] mutant : Mutants.ALL) {
            tryMutant(source, mutant, seen);
        }
        sameNames(outcomeOf(compile(source)).names, seen);
        System.out.println(wrong == 0 ? Mutants.ALL.length + " ways to break it are all seen" : wrong + " are not as due");
        if (wrong != 0) {
            System.exit(1);
        }
    }
}
