import java.io.File;
import java.io.IOException;
import java.lang.reflect.Method;
import java.lang.reflect.Modifier;
import java.net.URL;
import java.net.URLClassLoader;
import java.nio.file.Files;
import java.nio.file.Path;
import java.util.Comparator;
import java.util.List;
import java.util.regex.Matcher;
import java.util.regex.Pattern;
import java.util.stream.Stream;
import javax.tools.JavaCompiler;
import javax.tools.ToolProvider;

/** README.md holds: its code compiles and answers what stands behind each call; it names every call and every test. */
public final class ReadmeTest {
    private static final Checks C = new Checks();
    private static final Path PAGE = Path.of("README.md");
    private static final Path TESTS = Path.of("src/test/java");
    /** A call, and behind it as a comment a number first. */
    private static final Pattern ANSWERED = Pattern.compile("^(\\w.*);\\s+// (-?\\d+)\\b.*$");
    private static int calls = 0;

    private ReadmeTest() {
    }

    public static void main(String[] args) throws Exception {
        String page = Files.readString(PAGE);
        namesAll(page);
        Path folder = Files.createTempDirectory("readme");
        try {
            runCode(program(page), folder);
        } finally {
            remove(folder);
        }
        C.close("ReadmeTest");
    }

    /** Called by the page's code. */
    public static void answered(String call, long got, long want) {
        calls++;
        C.due(call, got, want);
    }

    private static void namesAll(String page) throws IOException {
        for (Method method : EelClerk.class.getDeclaredMethods()) {
            if (Modifier.isPublic(method.getModifiers())) {
                names(page, "`" + method.getName() + "()`");
            }
        }
        try (Stream<Path> tests = Files.list(TESTS)) {
            for (Path test : tests.filter(t -> t.toString().endsWith("Test.java")).toList()) {
                names(page, "`" + test.getFileName().toString().replace(".java", "") + "`");
            }
        }
        for (String place : List.of("`.ci/run`", "`../shared/DOC.md`", "`../shared/LANGUAGE.md`", "`../shared/tests`",
                "`src/main/java/EelClerk.java`")) {
            names(page, place);
        }
    }

    private static void names(String page, String what) {
        C.due("README.md names " + what, page.contains(what) ? 1 : 0, 1);
    }

    /** The page's blocks in their order as one program: methods as they stand, all else as what is run. */
    private static String program(String page) {
        StringBuilder methods = new StringBuilder();
        StringBuilder run = new StringBuilder();
        int answered = 0;
        Matcher block = Pattern.compile("(?s)```java\n(.*?)```").matcher(page);
        while (block.find()) {
            if (block.group(1).startsWith("static ")) {
                methods.append(block.group(1));
                continue;
            }
            for (String line : block.group(1).split("\n")) {
                Matcher call = ANSWERED.matcher(line);
                boolean is = call.matches();
                answered += is ? 1 : 0;
                C.due("a call and its answer, or a new object: " + line, is || line.contains("= new ") ? 1 : 0, 1);
                run.append(is ? "ReadmeTest.answered(\"" + call.group(1).replace("\"", "\\\"") + "\", " + call.group(1)
                        + ", " + call.group(2) + "L);" : line).append('\n');
            }
        }
        C.due("the page has calls", answered > 20 ? 1 : 0, 1);
        return "public final class Page {\n" + methods + "public static void run() {\n" + run + "}\n}\n";
    }

    private static void runCode(String program, Path folder) throws Exception {
        Path source = folder.resolve("Page.java");
        Files.writeString(source, program);
        JavaCompiler compiler = ToolProvider.getSystemJavaCompiler();
        int told = compiler.run(null, null, null, "-proc:none", "-classpath", System.getProperty("java.class.path"),
                "-d", folder.toString(), source.toString());
        C.due("the page's code compiles", told, 0);
        if (told == 0) {
            try (URLClassLoader loader = new URLClassLoader(new URL[] {folder.toUri().toURL()})) {
                loader.loadClass("Page").getMethod("run").invoke(null);
            }
            C.due("the page's calls were made", calls > 20 ? 1 : 0, 1);
        }
    }

    private static void remove(Path folder) throws IOException {
        try (Stream<Path> all = Files.walk(folder)) {
            all.sorted(Comparator.reverseOrder()).map(Path::toFile).forEach(File::delete);
        }
    }
}
